/-! FrameRaiser.hangsTogether -/
def fn_X7_hangsTogether (g : Nat) (x1 : Int32) (M : Mem) : Option (Int32 × Mem) :=
  if (fn_X7_isSet x1 M) = 0 then
    (some ((-1 : Int32), M))
  else
    ((fn_X7_knownRelations g M).bind fun M_2 =>
    (fn_X5_isConnected g 9 x1 M_2).bind fun r_3 =>
    if r_3 = 0 then
      (some ((0 : Int32), M_2))
    else
      (some ((1 : Int32), M_2)))
theorem dX7_hangsTogether_0 : decode cX7_hangsTogether 0 = .ok (.aload_n 0, 1) := by decide +kernel
theorem dX7_hangsTogether_1 : decode cX7_hangsTogether 1 = .ok (.iload_n 1, 1) := by decide +kernel
theorem dX7_hangsTogether_2 : decode cX7_hangsTogether 2 = .ok (.invokevirtual 167, 3) := by decide +kernel
theorem dX7_hangsTogether_5 : decode cX7_hangsTogether 5 = .ok (.ifCond .ne 5, 3) := by decide +kernel
theorem dX7_hangsTogether_8 : decode cX7_hangsTogether 8 = .ok (.iconst (-1), 1) := by decide +kernel
theorem dX7_hangsTogether_9 : decode cX7_hangsTogether 9 = .ok (.ireturn, 1) := by decide +kernel
theorem dX7_hangsTogether_10 : decode cX7_hangsTogether 10 = .ok (.aload_n 0, 1) := by decide +kernel
theorem dX7_hangsTogether_11 : decode cX7_hangsTogether 11 = .ok (.invokevirtual 160, 3) := by decide +kernel
theorem dX7_hangsTogether_14 : decode cX7_hangsTogether 14 = .ok (.iload_n 1, 1) := by decide +kernel
theorem dX7_hangsTogether_15 : decode cX7_hangsTogether 15 = .ok (.invokevirtual 177, 3) := by decide +kernel
theorem dX7_hangsTogether_18 : decode cX7_hangsTogether 18 = .ok (.ifCond .eq 7, 3) := by decide +kernel
theorem dX7_hangsTogether_21 : decode cX7_hangsTogether 21 = .ok (.iconst 1, 1) := by decide +kernel
theorem dX7_hangsTogether_22 : decode cX7_hangsTogether 22 = .ok (.goto 4, 3) := by decide +kernel
theorem dX7_hangsTogether_25 : decode cX7_hangsTogether 25 = .ok (.iconst 0, 1) := by decide +kernel
theorem dX7_hangsTogether_26 : decode cX7_hangsTogether 26 = .ok (.ireturn, 1) := by decide +kernel
set_option maxHeartbeats 4000000 in
set_option maxRecDepth 100000 in
theorem c_X7_hangsTogether {l : Launch} {X : En} (g : Nat) (x1 : Int32) (M : Mem) (r : Int32) (M9 : Mem) (hf : fn_X7_hangsTogether g x1 M = some (r, M9)) : Cn l X yX7_hangsTogether cX7_hangsTogether 2 (some .int) 4 96 [.ref (X.ad 0), .int x1] M (Qi X r M9) := by
  refine Met.ofW (cc := cX7_hangsTogether) (maxL := 2) (ret := (some .int)) (by decide) rfl ?_
  intro p e s m args below meth c s₁ B hml hv
  obtain ⟨rfl, hP, hk⟩ := hv
  have hx := B.exec
  have hb := B.bytes
  have hr := B.returns
  have hlocks := B.notSynchronized
  have hts : ∀ w ∈ lw_u, w.before ([.ref (X.ad 0), .int x1] : List Value).toArray s = true := fun w hw => atoms_spec (ws := Cond.code yX7_hangsTogether cX7_hangsTogether 2 (some .int) :: lw_u) B.pre w (List.mem_cons_of_mem _ hw)
  have hown : s.vm.findClass RX7 = some m.cls := findClass_of_methodNamed B.named
  have hZ : Fx p c m s ([.ref (X.ad 0), .int x1] : List Value).toArray X cX7_hangsTogether 2 RX7 := ⟨hx, hb, hml, hts, hown, hk⟩
  have hS : va_S X.A s.heap s.heap [] := va_S.rf
  have hl := lv_entry ([.ref (X.ad 0), .int x1]) (n := 2) (Nat.le_of_ble_eq_true rfl)
  rw [lg_entry_eq]
  generalize (lg_sl ([.ref (X.ad 0), .int x1]) ++ List.replicate (2 - (lg_sl ([.ref (X.ad 0), .int x1])).length) Slot.unset).toArray = ls at hl ⊢
  have hl : lv_has ls 2 [(0, .ref (X.ad 0)), (1, .int x1)] := hl
  show WW p l e 4 96 s m [.ref (X.ad 0), .int x1] below meth c X (Qi X r M9) s.heap [] 0 ls []
  have hP : wd X M s.heap := hP
  unfold fn_X7_hangsTogether at hf
  have key : ∀ (H : Heap) (locs : List Loc), wd X M H → va_S X.A s.heap H locs → WW p l e 4 96 s m [.ref (X.ad 0), .int x1] below meth c X (Qi X r M9) H locs 0 ls [] := by
    intro H locs hP hS
    refine lv_aload_n hx hb dX7_hangsTogether_0 rfl (lv_at hl 0 rfl) ?_
    refine lv_iload_n hx hb dX7_hangsTogether_1 rfl (lv_at hl 1 rfl) ?_
    refine k_X7_isSet hZ hP hS hl.1 wd_2_221 ⟨Nat.le_of_ble_eq_true rfl, Nat.le_of_ble_eq_true rfl⟩ (Nat.le_of_ble_eq_true rfl) dX7_hangsTogether_2 ⟨Nat.zero_le _, Nat.zero_le _⟩ (fun H locs hP hS => ?_)
    refine lv_if_ne (tgt := 10) hx hb dX7_hangsTogether_5 (by decide) (fun c_1 => ?_) (fun c_1 => ?_)
    · have hf := i_f c_1 hf
      refine lv_aload_n hx hb dX7_hangsTogether_10 rfl (lv_at hl 0 rfl) ?_
      obtain ⟨M_2, h_M_2, hf⟩ := b_d hf
      refine k_X7_knownRelations hZ hP hS hl.1 wd_2_185 ⟨Nat.le_of_ble_eq_true rfl, Nat.le_of_ble_eq_true rfl⟩ (Nat.le_of_ble_eq_true rfl) dX7_hangsTogether_11 ⟨Nat.zero_le _, Nat.zero_le _⟩ h_M_2 (fun H locs hP hS => ?_)
      refine lv_iload_n hx hb dX7_hangsTogether_14 rfl (lv_at hl 1 rfl) ?_
      obtain ⟨r_3, h_r_3, hf⟩ := b_d hf
      refine k_X5_isConnected hZ hP hS hl.1 wd_3_1 ⟨Nat.le_of_ble_eq_true rfl, Nat.le_of_ble_eq_true rfl⟩ (Nat.le_of_ble_eq_true rfl) dX7_hangsTogether_15 ⟨Nat.zero_le _, Nat.zero_le _⟩ isR_9 h_r_3 (fun H locs hP hS => ?_)
      refine lv_if_eq (tgt := 25) hx hb dX7_hangsTogether_18 (by decide) (fun c_4 => ?_) (fun c_4 => ?_)
      · have hf := i_t c_4 hf
        refine lv_iconst (v := (0 : Int32)) hx hb dX7_hangsTogether_25 (by decide) ?_
        have hf := Option.some.inj hf
        obtain ⟨e1, e2⟩ := Prod.mk.inj hf
        rw [e2] at hP
        exact ret_i hx hb hr hlocks hP hS e1 dX7_hangsTogether_26
      · have hf := i_f c_4 hf
        refine lv_iconst (v := (1 : Int32)) hx hb dX7_hangsTogether_21 (by decide) ?_
        refine lv_goto (tgt := 26) hx hb dX7_hangsTogether_22 (by decide) ?_
        have hf := Option.some.inj hf
        obtain ⟨e1, e2⟩ := Prod.mk.inj hf
        rw [e2] at hP
        exact ret_i hx hb hr hlocks hP hS e1 dX7_hangsTogether_26
    · have hf := i_t c_1 hf
      refine lv_iconst (v := (-1 : Int32)) hx hb dX7_hangsTogether_8 (by decide) ?_
      have hf := Option.some.inj hf
      obtain ⟨e1, e2⟩ := Prod.mk.inj hf
      rw [e2] at hP
      exact ret_i hx hb hr hlocks hP hS e1 dX7_hangsTogether_9
  exact key s.heap [] hP hS
theorem hd_X7_hangsTogether : Hd yX7_hangsTogether 1 := by decide +kernel
theorem k_X7_hangsTogether {p : Program} {l : Launch} {e : Env} {R : Room} {s : State} {m : MethodId} {args : Array Value} {below : List Frame} {meth : Method} {c : Code} {H : Heap} {locs : List Loc} {cells slots : Nat} {Q : State → Prop} {cc : ByteArray} {nL pc index : Nat} {ls : Array Slot} {rest : List Value} {X : En} {M : Mem} {H0 : Heap} {own : String} {g : Nat} {x1 : Int32} {r : Int32} {M9 : Mem} (hZ : Fx p c m s args X cc nL own) (hP : wd X M H) (hS : va_S X.A H0 H locs) (hsz : ls.size = nL) (hlk : Cond.methodLink own index yX7_hangsTogether ∈ lw_u) (hR : 4 + 1 ≤ R.frames ∧ 8 + (2 + 11) + 96 ≤ R.locals) (hW : (rest.map fun v => v.category).sum ≤ 8) (hdg : decode cc pc = .ok (.invokevirtual index, 3)) (hcs : cells ≤ R.cells ∧ slots ≤ R.slots) (hf : fn_X7_hangsTogether g x1 M = some (r, M9))
    (kk : ∀ (H1 : Heap) (locs1 : List Loc), wd X M9 H1 → va_S X.A H0 H1 locs1 → W p l e R s m args below meth c H1 locs1 cells slots Q (F0 m (pc + 3) ls (.int r :: rest))) : W p l e R s m args below meth c H locs cells slots Q (F0 m pc ls (.int x1 :: .ref (X.ad 0) :: rest)) :=
  cal_i (runV (As := [.int x1]) (rest := rest) hZ.1 hZ.2.1 hZ.2.2.1 hZ.2.2.2.1 hZ.2.2.2.2.1 hZ.2.2.2.2.2 hP (c_X7_hangsTogether g x1 M r M9 hf) wd_3_0 wd_2_238 wd_2_239 wd_1_1 hd_X7_hangsTogether (by decide) rfl rfl rfl hlk hR hsz rfl hW hdg hcs) hS kk
/-! FrameRaiser$Relations.propsOf -/
def bd_X5_propsOf_4 (k0 : Nat) (x1 : Int32) (M : Mem) : (Int32 × Int32) → Option ((Int32 × Int32) ⊕ (Int32)) :=
  u2 fun v2_2 v3_1 =>
  if (M k0 5) ≤ v3_1 then
    (some (.inr v2_2))
  else
    (if (fn_X7_has x1 v3_1) = 0 then
      (some (.inl (v2_2, v3_1 + (1 : Int32))))
    else
      (if (fn_X7_has (M k0 4) v3_1) = 0 then
        (if inb v3_1 8 then
        if ((M (k0 + 4) (ix v3_1)) &&& x1) = 0 then
          (some (.inl (v2_2 + (1 : Int32), v3_1 + (1 : Int32))))
        else
          (some (.inl (v2_2, v3_1 + (1 : Int32))))
        else none)
      else
        (some (.inl (v2_2, v3_1 + (1 : Int32))))))
def fn_X5_propsOf (g : Nat) (k0 : Nat) (x1 : Int32) (M : Mem) : Option (Int32) :=
  (lpN g (bd_X5_propsOf_4 k0 x1 M) ((0 : Int32), (0 : Int32))).bind (u1 fun v2_3 =>
    some v2_3)
theorem dX5_propsOf_0 : decode cX5_propsOf 0 = .ok (.iconst 0, 1) := by decide +kernel
theorem dX5_propsOf_1 : decode cX5_propsOf 1 = .ok (.istore_n 2, 1) := by decide +kernel
theorem dX5_propsOf_2 : decode cX5_propsOf 2 = .ok (.iconst 0, 1) := by decide +kernel
theorem dX5_propsOf_3 : decode cX5_propsOf 3 = .ok (.istore_n 3, 1) := by decide +kernel
theorem dX5_propsOf_4 : decode cX5_propsOf 4 = .ok (.iload_n 3, 1) := by decide +kernel
theorem dX5_propsOf_5 : decode cX5_propsOf 5 = .ok (.aload_n 0, 1) := by decide +kernel
theorem dX5_propsOf_6 : decode cX5_propsOf 6 = .ok (.getfield 33, 3) := by decide +kernel
theorem dX5_propsOf_9 : decode cX5_propsOf 9 = .ok (.if_icmp .ge 42, 3) := by decide +kernel
theorem dX5_propsOf_12 : decode cX5_propsOf 12 = .ok (.iload_n 1, 1) := by decide +kernel
theorem dX5_propsOf_13 : decode cX5_propsOf 13 = .ok (.iload_n 3, 1) := by decide +kernel
theorem dX5_propsOf_14 : decode cX5_propsOf 14 = .ok (.invokestatic 64, 3) := by decide +kernel
theorem dX5_propsOf_17 : decode cX5_propsOf 17 = .ok (.ifCond .eq 28, 3) := by decide +kernel
theorem dX5_propsOf_20 : decode cX5_propsOf 20 = .ok (.aload_n 0, 1) := by decide +kernel
theorem dX5_propsOf_21 : decode cX5_propsOf 21 = .ok (.getfield 37, 3) := by decide +kernel
theorem dX5_propsOf_24 : decode cX5_propsOf 24 = .ok (.iload_n 3, 1) := by decide +kernel
theorem dX5_propsOf_25 : decode cX5_propsOf 25 = .ok (.invokestatic 64, 3) := by decide +kernel
theorem dX5_propsOf_28 : decode cX5_propsOf 28 = .ok (.ifCond .ne 17, 3) := by decide +kernel
theorem dX5_propsOf_31 : decode cX5_propsOf 31 = .ok (.aload_n 0, 1) := by decide +kernel
theorem dX5_propsOf_32 : decode cX5_propsOf 32 = .ok (.getfield 21, 3) := by decide +kernel
theorem dX5_propsOf_35 : decode cX5_propsOf 35 = .ok (.iload_n 3, 1) := by decide +kernel
theorem dX5_propsOf_36 : decode cX5_propsOf 36 = .ok (.iaload, 1) := by decide +kernel
theorem dX5_propsOf_37 : decode cX5_propsOf 37 = .ok (.iload_n 1, 1) := by decide +kernel
theorem dX5_propsOf_38 : decode cX5_propsOf 38 = .ok (.iand, 1) := by decide +kernel
theorem dX5_propsOf_39 : decode cX5_propsOf 39 = .ok (.ifCond .ne 6, 3) := by decide +kernel
theorem dX5_propsOf_42 : decode cX5_propsOf 42 = .ok (.iinc 2 1, 3) := by decide +kernel
theorem dX5_propsOf_45 : decode cX5_propsOf 45 = .ok (.iinc 3 1, 3) := by decide +kernel
theorem dX5_propsOf_48 : decode cX5_propsOf 48 = .ok (.goto (-44), 3) := by decide +kernel
theorem dX5_propsOf_51 : decode cX5_propsOf 51 = .ok (.iload_n 2, 1) := by decide +kernel
theorem dX5_propsOf_52 : decode cX5_propsOf 52 = .ok (.ireturn, 1) := by decide +kernel
set_option maxHeartbeats 4000000 in
set_option maxRecDepth 100000 in
theorem c_X5_propsOf {l : Launch} {X : En} (g : Nat) (k0 : Nat) (x1 : Int32) (M : Mem) (hk0 : isR k0) (r : Int32) (hf : fn_X5_propsOf g k0 x1 M = some r) : Cn l X yX5_propsOf cX5_propsOf 4 (some .int) 1 21 [.ref (X.ad k0), .int x1] M (Qi X r M) := by
  refine Met.ofW (cc := cX5_propsOf) (maxL := 4) (ret := (some .int)) (by decide) rfl ?_
  intro p e s m args below meth c s₁ B hml hv
  obtain ⟨rfl, hP, hk⟩ := hv
  have hx := B.exec
  have hb := B.bytes
  have hr := B.returns
  have hlocks := B.notSynchronized
  have hts : ∀ w ∈ lw_u, w.before ([.ref (X.ad k0), .int x1] : List Value).toArray s = true := fun w hw => atoms_spec (ws := Cond.code yX5_propsOf cX5_propsOf 4 (some .int) :: lw_u) B.pre w (List.mem_cons_of_mem _ hw)
  have hown : s.vm.findClass RX5 = some m.cls := findClass_of_methodNamed B.named
  have hZ : Fx p c m s ([.ref (X.ad k0), .int x1] : List Value).toArray X cX5_propsOf 4 RX5 := ⟨hx, hb, hml, hts, hown, hk⟩
  have hS : va_S X.A s.heap s.heap [] := va_S.rf
  have hl := lv_entry ([.ref (X.ad k0), .int x1]) (n := 4) (Nat.le_of_ble_eq_true rfl)
  rw [lg_entry_eq]
  generalize (lg_sl ([.ref (X.ad k0), .int x1]) ++ List.replicate (4 - (lg_sl ([.ref (X.ad k0), .int x1])).length) Slot.unset).toArray = ls at hl ⊢
  have hl : lv_has ls 4 [(0, .ref (X.ad k0)), (1, .int x1)] := hl
  show WW p l e 1 21 s m [.ref (X.ad k0), .int x1] below meth c X (Qi X r M) s.heap [] 0 ls []
  have hP : wd X M s.heap := hP
  unfold fn_X5_propsOf at hf
  have key : ∀ (H : Heap) (locs : List Loc), wd X M H → va_S X.A s.heap H locs → WW p l e 1 21 s m [.ref (X.ad k0), .int x1] below meth c X (Qi X r M) H locs 0 ls [] := by
    intro H locs hP hS
    refine lv_iconst (v := (0 : Int32)) hx hb dX5_propsOf_0 (by decide) ?_
    refine lv_istore_n (lv' := [(2, .int (0 : Int32)), (0, .ref (X.ad k0)), (1, .int x1)]) hx hb dX5_propsOf_1 rfl hl (by decide) rfl (fun ls hl => ?_)
    refine lv_iconst (v := (0 : Int32)) hx hb dX5_propsOf_2 (by decide) ?_
    refine lv_istore_n (lv' := [(3, .int (0 : Int32)), (2, .int (0 : Int32)), (0, .ref (X.ad k0)), (1, .int x1)]) hx hb dX5_propsOf_3 rfl hl (by decide) rfl (fun ls hl => ?_)
    obtain ⟨o4, ho4, hf⟩ := b_d hf
    refine lp_rule (b := bd_X5_propsOf_4 k0 x1 M) (P := fun w : Int32 × Int32 => ∀ (H : Heap) (locs : List Loc) (ls : Array Slot), wd X M H → va_S X.A s.heap H locs → lv_has ls 4 [(3, .int w.2), (2, .int w.1), (0, .ref (X.ad k0)), (1, .int x1)] → WW p l e 1 21 s m [.ref (X.ad k0), .int x1] below meth c X (Qi X r M) H locs 4 ls []) (K := fun o => ∀ (v2_3 : Int32), o = v2_3 → ∀ (H : Heap) (locs : List Loc) (ls : Array Slot), wd X M H → va_S X.A s.heap H locs → lv_has ls 4 [(2, .int v2_3)] → WW p l e 1 21 s m [.ref (X.ad k0), .int x1] below meth c X (Qi X r M) H locs 51 ls []) ?_ g ((0 : Int32), (0 : Int32)) o4 ho4 ?_ H locs ls hP hS (lv_sub hl [0, 1, 2, 3] rfl)
    · rintro ⟨v2_2, v3_1⟩ o hf hkc4 hke4 H locs ls hP hS hl
      have hf := u2_e hf
      refine lv_iload_n hx hb dX5_propsOf_4 rfl (lv_at hl 0 rfl) ?_
      refine lv_aload_n hx hb dX5_propsOf_5 rfl (lv_at hl 2 rfl) ?_
      refine gX5_5 hx hb hts hown hk hP hk0 wd_1_96 dX5_propsOf_6 ?_
      refine lv_icmp_ge (tgt := 51) hx hb dX5_propsOf_9 (by decide) (fun c_4 => ?_) (fun c_4 => ?_)
      · have hf := i_t c_4 hf
        exact hke4 _ (Option.some.inj hf).symm _ rfl H locs ls hP hS (lv_sub hl [1] rfl)
      · have hf := i_f c_4 hf
        refine lv_iload_n hx hb dX5_propsOf_12 rfl (lv_at hl 3 rfl) ?_
        refine lv_iload_n hx hb dX5_propsOf_13 rfl (lv_at hl 0 rfl) ?_
        refine kn_X7_has hZ hP hS hl.1 (nest_10 hk.2.1) ⟨Nat.le_of_ble_eq_true rfl, Nat.le_of_ble_eq_true rfl⟩ (Nat.le_of_ble_eq_true rfl) dX5_propsOf_14 ⟨Nat.zero_le _, Nat.zero_le _⟩ (fun H locs hP hS => ?_)
        refine lv_if_eq (tgt := 45) hx hb dX5_propsOf_17 (by decide) (fun c_5 => ?_) (fun c_5 => ?_)
        · have hf := i_t c_5 hf
          refine lv_iinc (v := v3_1 + (1 : Int32)) (lv' := [(3, .int (v3_1 + (1 : Int32))), (2, .int v2_2), (0, .ref (X.ad k0)), (1, .int x1)]) hx hb dX5_propsOf_45 hl (k := 0) rfl rfl (by decide) rfl (fun ls hl => ?_)
          refine lv_goto (tgt := 4) hx hb dX5_propsOf_48 (by decide) ?_
          exact hkc4 _ (Option.some.inj hf).symm H locs ls hP hS (lv_sub hl [0, 1, 2, 3] rfl)
        · have hf := i_f c_5 hf
          refine lv_aload_n hx hb dX5_propsOf_20 rfl (lv_at hl 2 rfl) ?_
          refine gX5_4 hx hb hts hown hk hP hk0 wd_1_95 dX5_propsOf_21 ?_
          refine lv_iload_n hx hb dX5_propsOf_24 rfl (lv_at hl 0 rfl) ?_
          refine kn_X7_has hZ hP hS hl.1 (nest_10 hk.2.1) ⟨Nat.le_of_ble_eq_true rfl, Nat.le_of_ble_eq_true rfl⟩ (Nat.le_of_ble_eq_true rfl) dX5_propsOf_25 ⟨Nat.zero_le _, Nat.zero_le _⟩ (fun H locs hP hS => ?_)
          refine lv_if_ne (tgt := 45) hx hb dX5_propsOf_28 (by decide) (fun c_6 => ?_) (fun c_6 => ?_)
          · have hf := i_f c_6 hf
            refine lv_iinc (v := v3_1 + (1 : Int32)) (lv' := [(3, .int (v3_1 + (1 : Int32))), (2, .int v2_2), (0, .ref (X.ad k0)), (1, .int x1)]) hx hb dX5_propsOf_45 hl (k := 0) rfl rfl (by decide) rfl (fun ls hl => ?_)
            refine lv_goto (tgt := 4) hx hb dX5_propsOf_48 (by decide) ?_
            exact hkc4 _ (Option.some.inj hf).symm H locs ls hP hS (lv_sub hl [0, 1, 2, 3] rfl)
          · have hf := i_t c_6 hf
            refine lv_aload_n hx hb dX5_propsOf_31 rfl (lv_at hl 2 rfl) ?_
            refine gX5_3 hx hb hts hown hk hP hk0 wd_1_94 dX5_propsOf_32 ?_
            refine lv_iload_n hx hb dX5_propsOf_35 rfl (lv_at hl 0 rfl) ?_
            obtain ⟨q_7, hf⟩ := g_if hf
            refine ald hx hb hk hP (isR_lt4 hk0) (rd_R4 hk0 _) q_7 dX5_propsOf_36 ?_
            refine lv_iload_n hx hb dX5_propsOf_37 rfl (lv_at hl 3 rfl) ?_
            refine lv_iand hx hb dX5_propsOf_38 ?_
            refine lv_if_ne (tgt := 45) hx hb dX5_propsOf_39 (by decide) (fun c_8 => ?_) (fun c_8 => ?_)
            · have hf := i_f c_8 hf
              refine lv_iinc (v := v3_1 + (1 : Int32)) (lv' := [(3, .int (v3_1 + (1 : Int32))), (2, .int v2_2), (0, .ref (X.ad k0)), (1, .int x1)]) hx hb dX5_propsOf_45 hl (k := 0) rfl rfl (by decide) rfl (fun ls hl => ?_)
              refine lv_goto (tgt := 4) hx hb dX5_propsOf_48 (by decide) ?_
              exact hkc4 _ (Option.some.inj hf).symm H locs ls hP hS (lv_sub hl [0, 1, 2, 3] rfl)
            · have hf := i_t c_8 hf
              refine lv_iinc (v := v2_2 + (1 : Int32)) (lv' := [(2, .int (v2_2 + (1 : Int32))), (3, .int v3_1), (0, .ref (X.ad k0)), (1, .int x1)]) hx hb dX5_propsOf_42 hl (k := 1) rfl rfl (by decide) rfl (fun ls hl => ?_)
              refine lv_iinc (v := v3_1 + (1 : Int32)) (lv' := [(3, .int (v3_1 + (1 : Int32))), (2, .int (v2_2 + (1 : Int32))), (0, .ref (X.ad k0)), (1, .int x1)]) hx hb dX5_propsOf_45 hl (k := 1) rfl rfl (by decide) rfl (fun ls hl => ?_)
              refine lv_goto (tgt := 4) hx hb dX5_propsOf_48 (by decide) ?_
              exact hkc4 _ (Option.some.inj hf).symm H locs ls hP hS (lv_sub hl [0, 1, 2, 3] rfl)
    · intro v2_3 e H locs ls hP hS hl
      subst o4
      have hf := u1_e hf
      refine lv_iload_n hx hb dX5_propsOf_51 rfl (lv_at hl 0 rfl) ?_
      have hf := Option.some.inj hf
      exact ret_i hx hb hr hlocks hP hS hf dX5_propsOf_52
  exact key s.heap [] hP hS
theorem hd_X5_propsOf : Hd yX5_propsOf 1 := by decide +kernel
theorem k_X5_propsOf {p : Program} {l : Launch} {e : Env} {R : Room} {s : State} {m : MethodId} {args : Array Value} {below : List Frame} {meth : Method} {c : Code} {H : Heap} {locs : List Loc} {cells slots : Nat} {Q : State → Prop} {cc : ByteArray} {nL pc index : Nat} {ls : Array Slot} {rest : List Value} {X : En} {M : Mem} {H0 : Heap} {own : String} {g : Nat} {k0 : Nat} {x1 : Int32} {r : Int32} (hZ : Fx p c m s args X cc nL own) (hP : wd X M H) (hS : va_S X.A H0 H locs) (hsz : ls.size = nL) (hlk : Cond.methodLink own index yX5_propsOf ∈ lw_u) (hR : 1 + 1 ≤ R.frames ∧ 8 + (4 + 11) + 21 ≤ R.locals) (hW : (rest.map fun v => v.category).sum ≤ 8) (hdg : decode cc pc = .ok (.invokevirtual index, 3)) (hcs : cells ≤ R.cells ∧ slots ≤ R.slots) (hk0 : isR k0) (hf : fn_X5_propsOf g k0 x1 M = some r)
    (kk : ∀ (H1 : Heap) (locs1 : List Loc), wd X M H1 → va_S X.A H0 H1 locs1 → W p l e R s m args below meth c H1 locs1 cells slots Q (F0 m (pc + 3) ls (.int r :: rest))) : W p l e R s m args below meth c H locs cells slots Q (F0 m pc ls (.int x1 :: .ref (X.ad k0) :: rest)) :=
  cal_i (runV (As := [.int x1]) (rest := rest) hZ.1 hZ.2.1 hZ.2.2.1 hZ.2.2.2.1 hZ.2.2.2.2.1 hZ.2.2.2.2.2 hP (c_X5_propsOf g k0 x1 M hk0 r hf) wd_3_13 wd_3_11 wd_3_12 wd_1_4 hd_X5_propsOf (isR_lt0 hk0) (rd_R0 hk0 _) rfl rfl hlk hR hsz rfl hW hdg hcs) hS kk
/-! FrameRaiser.props -/
def fn_X7_props (g : Nat) (x1 : Int32) (M : Mem) : Option (Int32 × Mem) :=
  if (fn_X7_isSet x1 M) = 0 then
    (some ((-1 : Int32), M))
  else
    ((fn_X7_knownRelations g M).bind fun M_2 =>
    (fn_X5_propsOf g 9 x1 M_2).bind fun r_3 =>
    some (r_3, M_2))
theorem dX7_props_0 : decode cX7_props 0 = .ok (.aload_n 0, 1) := by decide +kernel
theorem dX7_props_1 : decode cX7_props 1 = .ok (.iload_n 1, 1) := by decide +kernel
theorem dX7_props_2 : decode cX7_props 2 = .ok (.invokevirtual 167, 3) := by decide +kernel
theorem dX7_props_5 : decode cX7_props 5 = .ok (.ifCond .ne 5, 3) := by decide +kernel
theorem dX7_props_8 : decode cX7_props 8 = .ok (.iconst (-1), 1) := by decide +kernel
theorem dX7_props_9 : decode cX7_props 9 = .ok (.ireturn, 1) := by decide +kernel
theorem dX7_props_10 : decode cX7_props 10 = .ok (.aload_n 0, 1) := by decide +kernel
theorem dX7_props_11 : decode cX7_props 11 = .ok (.invokevirtual 160, 3) := by decide +kernel
theorem dX7_props_14 : decode cX7_props 14 = .ok (.iload_n 1, 1) := by decide +kernel
theorem dX7_props_15 : decode cX7_props 15 = .ok (.invokevirtual 180, 3) := by decide +kernel
theorem dX7_props_18 : decode cX7_props 18 = .ok (.ireturn, 1) := by decide +kernel
set_option maxHeartbeats 4000000 in
set_option maxRecDepth 100000 in
theorem c_X7_props {l : Launch} {X : En} (g : Nat) (x1 : Int32) (M : Mem) (r : Int32) (M9 : Mem) (hf : fn_X7_props g x1 M = some (r, M9)) : Cn l X yX7_props cX7_props 2 (some .int) 4 96 [.ref (X.ad 0), .int x1] M (Qi X r M9) := by
  refine Met.ofW (cc := cX7_props) (maxL := 2) (ret := (some .int)) (by decide) rfl ?_
  intro p e s m args below meth c s₁ B hml hv
  obtain ⟨rfl, hP, hk⟩ := hv
  have hx := B.exec
  have hb := B.bytes
  have hr := B.returns
  have hlocks := B.notSynchronized
  have hts : ∀ w ∈ lw_u, w.before ([.ref (X.ad 0), .int x1] : List Value).toArray s = true := fun w hw => atoms_spec (ws := Cond.code yX7_props cX7_props 2 (some .int) :: lw_u) B.pre w (List.mem_cons_of_mem _ hw)
  have hown : s.vm.findClass RX7 = some m.cls := findClass_of_methodNamed B.named
  have hZ : Fx p c m s ([.ref (X.ad 0), .int x1] : List Value).toArray X cX7_props 2 RX7 := ⟨hx, hb, hml, hts, hown, hk⟩
  have hS : va_S X.A s.heap s.heap [] := va_S.rf
  have hl := lv_entry ([.ref (X.ad 0), .int x1]) (n := 2) (Nat.le_of_ble_eq_true rfl)
  rw [lg_entry_eq]
  generalize (lg_sl ([.ref (X.ad 0), .int x1]) ++ List.replicate (2 - (lg_sl ([.ref (X.ad 0), .int x1])).length) Slot.unset).toArray = ls at hl ⊢
  have hl : lv_has ls 2 [(0, .ref (X.ad 0)), (1, .int x1)] := hl
  show WW p l e 4 96 s m [.ref (X.ad 0), .int x1] below meth c X (Qi X r M9) s.heap [] 0 ls []
  have hP : wd X M s.heap := hP
  unfold fn_X7_props at hf
  have key : ∀ (H : Heap) (locs : List Loc), wd X M H → va_S X.A s.heap H locs → WW p l e 4 96 s m [.ref (X.ad 0), .int x1] below meth c X (Qi X r M9) H locs 0 ls [] := by
    intro H locs hP hS
    refine lv_aload_n hx hb dX7_props_0 rfl (lv_at hl 0 rfl) ?_
    refine lv_iload_n hx hb dX7_props_1 rfl (lv_at hl 1 rfl) ?_
    refine k_X7_isSet hZ hP hS hl.1 wd_2_221 ⟨Nat.le_of_ble_eq_true rfl, Nat.le_of_ble_eq_true rfl⟩ (Nat.le_of_ble_eq_true rfl) dX7_props_2 ⟨Nat.zero_le _, Nat.zero_le _⟩ (fun H locs hP hS => ?_)
    refine lv_if_ne (tgt := 10) hx hb dX7_props_5 (by decide) (fun c_1 => ?_) (fun c_1 => ?_)
    · have hf := i_f c_1 hf
      refine lv_aload_n hx hb dX7_props_10 rfl (lv_at hl 0 rfl) ?_
      obtain ⟨M_2, h_M_2, hf⟩ := b_d hf
      refine k_X7_knownRelations hZ hP hS hl.1 wd_2_185 ⟨Nat.le_of_ble_eq_true rfl, Nat.le_of_ble_eq_true rfl⟩ (Nat.le_of_ble_eq_true rfl) dX7_props_11 ⟨Nat.zero_le _, Nat.zero_le _⟩ h_M_2 (fun H locs hP hS => ?_)
      refine lv_iload_n hx hb dX7_props_14 rfl (lv_at hl 1 rfl) ?_
      obtain ⟨r_3, h_r_3, hf⟩ := b_d hf
      refine k_X5_propsOf hZ hP hS hl.1 wd_3_10 ⟨Nat.le_of_ble_eq_true rfl, Nat.le_of_ble_eq_true rfl⟩ (Nat.le_of_ble_eq_true rfl) dX7_props_15 ⟨Nat.zero_le _, Nat.zero_le _⟩ isR_9 h_r_3 (fun H locs hP hS => ?_)
      have hf := Option.some.inj hf
      obtain ⟨e1, e2⟩ := Prod.mk.inj hf
      rw [e2] at hP
      exact ret_i hx hb hr hlocks hP hS e1 dX7_props_18
    · have hf := i_t c_1 hf
      refine lv_iconst (v := (-1 : Int32)) hx hb dX7_props_8 (by decide) ?_
      have hf := Option.some.inj hf
      obtain ⟨e1, e2⟩ := Prod.mk.inj hf
      rw [e2] at hP
      exact ret_i hx hb hr hlocks hP hS e1 dX7_props_9
  exact key s.heap [] hP hS
theorem hd_X7_props : Hd yX7_props 1 := by decide +kernel
theorem k_X7_props {p : Program} {l : Launch} {e : Env} {R : Room} {s : State} {m : MethodId} {args : Array Value} {below : List Frame} {meth : Method} {c : Code} {H : Heap} {locs : List Loc} {cells slots : Nat} {Q : State → Prop} {cc : ByteArray} {nL pc index : Nat} {ls : Array Slot} {rest : List Value} {X : En} {M : Mem} {H0 : Heap} {own : String} {g : Nat} {x1 : Int32} {r : Int32} {M9 : Mem} (hZ : Fx p c m s args X cc nL own) (hP : wd X M H) (hS : va_S X.A H0 H locs) (hsz : ls.size = nL) (hlk : Cond.methodLink own index yX7_props ∈ lw_u) (hR : 4 + 1 ≤ R.frames ∧ 8 + (2 + 11) + 96 ≤ R.locals) (hW : (rest.map fun v => v.category).sum ≤ 8) (hdg : decode cc pc = .ok (.invokevirtual index, 3)) (hcs : cells ≤ R.cells ∧ slots ≤ R.slots) (hf : fn_X7_props g x1 M = some (r, M9))
    (kk : ∀ (H1 : Heap) (locs1 : List Loc), wd X M9 H1 → va_S X.A H0 H1 locs1 → W p l e R s m args below meth c H1 locs1 cells slots Q (F0 m (pc + 3) ls (.int r :: rest))) : W p l e R s m args below meth c H locs cells slots Q (F0 m pc ls (.int x1 :: .ref (X.ad 0) :: rest)) :=
  cal_i (runV (As := [.int x1]) (rest := rest) hZ.1 hZ.2.1 hZ.2.2.1 hZ.2.2.2.1 hZ.2.2.2.2.1 hZ.2.2.2.2.2 hP (c_X7_props g x1 M r M9 hf) wd_3_9 wd_3_7 wd_3_8 wd_1_1 hd_X7_props (by decide) rfl rfl rfl hlk hR hsz rfl hW hdg hcs) hS kk
/-! FrameRaiser$Relations.standingOf -/
def bd_X5_standingOf_20 (k0 : Nat) (x1 : Int32) (M : Mem) : (Int32 × Int32) → Option ((Int32 × Int32) ⊕ (Int32)) :=
  u2 fun v2_7 v4_6 =>
  if (M k0 5) ≤ v4_6 then
    (some (.inr v2_7))
  else
    (if (fn_X7_has x1 v4_6) = 0 then
      (some (.inl (v2_7, v4_6 + (1 : Int32))))
    else
      (if inb v4_6 8 then
      if ((M (k0 + 4) (ix v4_6)) &&& v2_7) = 0 then
        (some (.inl (v2_7, v4_6 + (1 : Int32))))
      else
        (bv (v2_7 ||| (sl (1 : Int32) v4_6)) fun v2_13 =>
        some (.inl (v2_13, v4_6 + (1 : Int32))))
      else none))
def bd_X5_standingOf_9 (g : Nat) (k0 : Nat) (x1 : Int32) (M : Mem) : (Int32 × Int32) → Option ((Int32 × Int32) ⊕ (Int32)) :=
  u2 fun v2_3 v3_2 =>
  if (M k0 5) ≤ v3_2 then
    (some (.inr v2_3))
  else
    ((lpN g (bd_X5_standingOf_20 k0 x1 M) (v2_3, (0 : Int32))).bind (u1 fun v2_8 =>
      some (.inl (v2_8, v3_2 + (1 : Int32)))))
def fn_X5_standingOf (g : Nat) (k0 : Nat) (x1 : Int32) (M : Mem) : Option (Int32) :=
  bv ((M k0 4) &&& x1) fun v2_1 =>
  (lpN g (bd_X5_standingOf_9 g k0 x1 M) (v2_1, (0 : Int32))).bind (u1 fun v2_4 =>
    some v2_4)
theorem dX5_standingOf_0 : decode cX5_standingOf 0 = .ok (.aload_n 0, 1) := by decide +kernel
theorem dX5_standingOf_1 : decode cX5_standingOf 1 = .ok (.getfield 37, 3) := by decide +kernel
theorem dX5_standingOf_4 : decode cX5_standingOf 4 = .ok (.iload_n 1, 1) := by decide +kernel
theorem dX5_standingOf_5 : decode cX5_standingOf 5 = .ok (.iand, 1) := by decide +kernel
theorem dX5_standingOf_6 : decode cX5_standingOf 6 = .ok (.istore_n 2, 1) := by decide +kernel
theorem dX5_standingOf_7 : decode cX5_standingOf 7 = .ok (.iconst 0, 1) := by decide +kernel
theorem dX5_standingOf_8 : decode cX5_standingOf 8 = .ok (.istore_n 3, 1) := by decide +kernel
theorem dX5_standingOf_9 : decode cX5_standingOf 9 = .ok (.iload_n 3, 1) := by decide +kernel
theorem dX5_standingOf_10 : decode cX5_standingOf 10 = .ok (.aload_n 0, 1) := by decide +kernel
theorem dX5_standingOf_11 : decode cX5_standingOf 11 = .ok (.getfield 33, 3) := by decide +kernel
theorem dX5_standingOf_14 : decode cX5_standingOf 14 = .ok (.if_icmp .ge 55, 3) := by decide +kernel
theorem dX5_standingOf_17 : decode cX5_standingOf 17 = .ok (.iconst 0, 1) := by decide +kernel
theorem dX5_standingOf_18 : decode cX5_standingOf 18 = .ok (.istore 4, 2) := by decide +kernel
theorem dX5_standingOf_20 : decode cX5_standingOf 20 = .ok (.iload 4, 2) := by decide +kernel
theorem dX5_standingOf_22 : decode cX5_standingOf 22 = .ok (.aload_n 0, 1) := by decide +kernel
theorem dX5_standingOf_23 : decode cX5_standingOf 23 = .ok (.getfield 33, 3) := by decide +kernel
theorem dX5_standingOf_26 : decode cX5_standingOf 26 = .ok (.if_icmp .ge 37, 3) := by decide +kernel
theorem dX5_standingOf_29 : decode cX5_standingOf 29 = .ok (.iload_n 1, 1) := by decide +kernel
theorem dX5_standingOf_30 : decode cX5_standingOf 30 = .ok (.iload 4, 2) := by decide +kernel
theorem dX5_standingOf_32 : decode cX5_standingOf 32 = .ok (.invokestatic 64, 3) := by decide +kernel
theorem dX5_standingOf_35 : decode cX5_standingOf 35 = .ok (.ifCond .eq 22, 3) := by decide +kernel
theorem dX5_standingOf_38 : decode cX5_standingOf 38 = .ok (.aload_n 0, 1) := by decide +kernel
theorem dX5_standingOf_39 : decode cX5_standingOf 39 = .ok (.getfield 21, 3) := by decide +kernel
theorem dX5_standingOf_42 : decode cX5_standingOf 42 = .ok (.iload 4, 2) := by decide +kernel
theorem dX5_standingOf_44 : decode cX5_standingOf 44 = .ok (.iaload, 1) := by decide +kernel
theorem dX5_standingOf_45 : decode cX5_standingOf 45 = .ok (.iload_n 2, 1) := by decide +kernel
theorem dX5_standingOf_46 : decode cX5_standingOf 46 = .ok (.iand, 1) := by decide +kernel
theorem dX5_standingOf_47 : decode cX5_standingOf 47 = .ok (.ifCond .eq 10, 3) := by decide +kernel
theorem dX5_standingOf_50 : decode cX5_standingOf 50 = .ok (.iload_n 2, 1) := by decide +kernel
theorem dX5_standingOf_51 : decode cX5_standingOf 51 = .ok (.iconst 1, 1) := by decide +kernel
theorem dX5_standingOf_52 : decode cX5_standingOf 52 = .ok (.iload 4, 2) := by decide +kernel
theorem dX5_standingOf_54 : decode cX5_standingOf 54 = .ok (.ishl, 1) := by decide +kernel
theorem dX5_standingOf_55 : decode cX5_standingOf 55 = .ok (.ior, 1) := by decide +kernel
theorem dX5_standingOf_56 : decode cX5_standingOf 56 = .ok (.istore_n 2, 1) := by decide +kernel
theorem dX5_standingOf_57 : decode cX5_standingOf 57 = .ok (.iinc 4 1, 3) := by decide +kernel
theorem dX5_standingOf_60 : decode cX5_standingOf 60 = .ok (.goto (-40), 3) := by decide +kernel
theorem dX5_standingOf_63 : decode cX5_standingOf 63 = .ok (.iinc 3 1, 3) := by decide +kernel
theorem dX5_standingOf_66 : decode cX5_standingOf 66 = .ok (.goto (-57), 3) := by decide +kernel
theorem dX5_standingOf_69 : decode cX5_standingOf 69 = .ok (.iload_n 2, 1) := by decide +kernel
theorem dX5_standingOf_70 : decode cX5_standingOf 70 = .ok (.ireturn, 1) := by decide +kernel
set_option maxHeartbeats 4000000 in
set_option maxRecDepth 100000 in
theorem c_X5_standingOf {l : Launch} {X : En} (g : Nat) (k0 : Nat) (x1 : Int32) (M : Mem) (hk0 : isR k0) (r : Int32) (hf : fn_X5_standingOf g k0 x1 M = some r) : Cn l X yX5_standingOf cX5_standingOf 5 (some .int) 1 21 [.ref (X.ad k0), .int x1] M (Qi X r M) := by
  refine Met.ofW (cc := cX5_standingOf) (maxL := 5) (ret := (some .int)) (by decide) rfl ?_
  intro p e s m args below meth c s₁ B hml hv
  obtain ⟨rfl, hP, hk⟩ := hv
  have hx := B.exec
  have hb := B.bytes
  have hr := B.returns
  have hlocks := B.notSynchronized
  have hts : ∀ w ∈ lw_u, w.before ([.ref (X.ad k0), .int x1] : List Value).toArray s = true := fun w hw => atoms_spec (ws := Cond.code yX5_standingOf cX5_standingOf 5 (some .int) :: lw_u) B.pre w (List.mem_cons_of_mem _ hw)
  have hown : s.vm.findClass RX5 = some m.cls := findClass_of_methodNamed B.named
  have hZ : Fx p c m s ([.ref (X.ad k0), .int x1] : List Value).toArray X cX5_standingOf 5 RX5 := ⟨hx, hb, hml, hts, hown, hk⟩
  have hS : va_S X.A s.heap s.heap [] := va_S.rf
  have hl := lv_entry ([.ref (X.ad k0), .int x1]) (n := 5) (Nat.le_of_ble_eq_true rfl)
  rw [lg_entry_eq]
  generalize (lg_sl ([.ref (X.ad k0), .int x1]) ++ List.replicate (5 - (lg_sl ([.ref (X.ad k0), .int x1])).length) Slot.unset).toArray = ls at hl ⊢
  have hl : lv_has ls 5 [(0, .ref (X.ad k0)), (1, .int x1)] := hl
  show WW p l e 1 21 s m [.ref (X.ad k0), .int x1] below meth c X (Qi X r M) s.heap [] 0 ls []
  have hP : wd X M s.heap := hP
  unfold fn_X5_standingOf at hf
  have key : ∀ (H : Heap) (locs : List Loc), wd X M H → va_S X.A s.heap H locs → WW p l e 1 21 s m [.ref (X.ad k0), .int x1] below meth c X (Qi X r M) H locs 0 ls [] := by
    intro H locs hP hS
    refine lv_aload_n hx hb dX5_standingOf_0 rfl (lv_at hl 0 rfl) ?_
    refine gX5_4 hx hb hts hown hk hP hk0 wd_1_95 dX5_standingOf_1 ?_
    refine lv_iload_n hx hb dX5_standingOf_4 rfl (lv_at hl 1 rfl) ?_
    refine lv_iand hx hb dX5_standingOf_5 ?_
    refine lv_topi (fun v2_1 e_v2_1 => ?_)
    have hf := b_v hf e_v2_1
    refine lv_istore_n (lv' := [(2, .int v2_1), (0, .ref (X.ad k0)), (1, .int x1)]) hx hb dX5_standingOf_6 rfl hl (by decide) rfl (fun ls hl => ?_)
    refine lv_iconst (v := (0 : Int32)) hx hb dX5_standingOf_7 (by decide) ?_
    refine lv_istore_n (lv' := [(3, .int (0 : Int32)), (2, .int v2_1), (0, .ref (X.ad k0)), (1, .int x1)]) hx hb dX5_standingOf_8 rfl hl (by decide) rfl (fun ls hl => ?_)
    obtain ⟨o9, ho9, hf⟩ := b_d hf
    refine lp_rule (b := bd_X5_standingOf_9 g k0 x1 M) (P := fun w : Int32 × Int32 => ∀ (H : Heap) (locs : List Loc) (ls : Array Slot), wd X M H → va_S X.A s.heap H locs → lv_has ls 5 [(3, .int w.2), (2, .int w.1), (0, .ref (X.ad k0)), (1, .int x1)] → WW p l e 1 21 s m [.ref (X.ad k0), .int x1] below meth c X (Qi X r M) H locs 9 ls []) (K := fun o => ∀ (v2_4 : Int32), o = v2_4 → ∀ (H : Heap) (locs : List Loc) (ls : Array Slot), wd X M H → va_S X.A s.heap H locs → lv_has ls 5 [(2, .int v2_4)] → WW p l e 1 21 s m [.ref (X.ad k0), .int x1] below meth c X (Qi X r M) H locs 69 ls []) ?_ g (v2_1, (0 : Int32)) o9 ho9 ?_ H locs ls hP hS (lv_sub hl [0, 1, 2, 3] rfl)
    · rintro ⟨v2_3, v3_2⟩ o hf hkc9 hke9 H locs ls hP hS hl
      have hf := u2_e hf
      refine lv_iload_n hx hb dX5_standingOf_9 rfl (lv_at hl 0 rfl) ?_
      refine lv_aload_n hx hb dX5_standingOf_10 rfl (lv_at hl 2 rfl) ?_
      refine gX5_5 hx hb hts hown hk hP hk0 wd_1_96 dX5_standingOf_11 ?_
      refine lv_icmp_ge (tgt := 69) hx hb dX5_standingOf_14 (by decide) (fun c_5 => ?_) (fun c_5 => ?_)
      · have hf := i_t c_5 hf
        exact hke9 _ (Option.some.inj hf).symm _ rfl H locs ls hP hS (lv_sub hl [1] rfl)
      · have hf := i_f c_5 hf
        refine lv_iconst (v := (0 : Int32)) hx hb dX5_standingOf_17 (by decide) ?_
        refine lv_istore (lv' := [(4, .int (0 : Int32)), (3, .int v3_2), (2, .int v2_3), (0, .ref (X.ad k0)), (1, .int x1)]) hx hb dX5_standingOf_18 hl (by decide) rfl (fun ls hl => ?_)
        obtain ⟨o20, ho20, hf⟩ := b_d hf
        refine lp_rule (b := bd_X5_standingOf_20 k0 x1 M) (P := fun w : Int32 × Int32 => ∀ (H : Heap) (locs : List Loc) (ls : Array Slot), wd X M H → va_S X.A s.heap H locs → lv_has ls 5 [(4, .int w.2), (3, .int v3_2), (2, .int w.1), (0, .ref (X.ad k0)), (1, .int x1)] → WW p l e 1 21 s m [.ref (X.ad k0), .int x1] below meth c X (Qi X r M) H locs 20 ls []) (K := fun o => ∀ (v2_8 : Int32), o = v2_8 → ∀ (H : Heap) (locs : List Loc) (ls : Array Slot), wd X M H → va_S X.A s.heap H locs → lv_has ls 5 [(3, .int v3_2), (2, .int v2_8), (0, .ref (X.ad k0)), (1, .int x1)] → WW p l e 1 21 s m [.ref (X.ad k0), .int x1] below meth c X (Qi X r M) H locs 63 ls []) ?_ g (v2_3, (0 : Int32)) o20 ho20 ?_ H locs ls hP hS (lv_sub hl [0, 1, 2, 3, 4] rfl)
        · rintro ⟨v2_7, v4_6⟩ o hf hkc20 hke20 H locs ls hP hS hl
          have hf := u2_e hf
          refine lv_iload hx hb dX5_standingOf_20 (lv_at hl 0 rfl) ?_
          refine lv_aload_n hx hb dX5_standingOf_22 rfl (lv_at hl 3 rfl) ?_
          refine gX5_5 hx hb hts hown hk hP hk0 wd_1_96 dX5_standingOf_23 ?_
          refine lv_icmp_ge (tgt := 63) hx hb dX5_standingOf_26 (by decide) (fun c_9 => ?_) (fun c_9 => ?_)
          · have hf := i_t c_9 hf
            exact hke20 _ (Option.some.inj hf).symm _ rfl H locs ls hP hS (lv_sub hl [1, 2, 3, 4] rfl)
          · have hf := i_f c_9 hf
            refine lv_iload_n hx hb dX5_standingOf_29 rfl (lv_at hl 4 rfl) ?_
            refine lv_iload hx hb dX5_standingOf_30 (lv_at hl 0 rfl) ?_
            refine kn_X7_has hZ hP hS hl.1 (nest_10 hk.2.1) ⟨Nat.le_of_ble_eq_true rfl, Nat.le_of_ble_eq_true rfl⟩ (Nat.le_of_ble_eq_true rfl) dX5_standingOf_32 ⟨Nat.zero_le _, Nat.zero_le _⟩ (fun H locs hP hS => ?_)
            refine lv_if_eq (tgt := 57) hx hb dX5_standingOf_35 (by decide) (fun c_10 => ?_) (fun c_10 => ?_)
            · have hf := i_t c_10 hf
              refine lv_iinc (v := v4_6 + (1 : Int32)) (lv' := [(4, .int (v4_6 + (1 : Int32))), (3, .int v3_2), (2, .int v2_7), (0, .ref (X.ad k0)), (1, .int x1)]) hx hb dX5_standingOf_57 hl (k := 0) rfl rfl (by decide) rfl (fun ls hl => ?_)
              refine lv_goto (tgt := 20) hx hb dX5_standingOf_60 (by decide) ?_
              exact hkc20 _ (Option.some.inj hf).symm H locs ls hP hS (lv_sub hl [0, 1, 2, 3, 4] rfl)
            · have hf := i_f c_10 hf
              refine lv_aload_n hx hb dX5_standingOf_38 rfl (lv_at hl 3 rfl) ?_
              refine gX5_3 hx hb hts hown hk hP hk0 wd_1_94 dX5_standingOf_39 ?_
              refine lv_iload hx hb dX5_standingOf_42 (lv_at hl 0 rfl) ?_
              obtain ⟨q_11, hf⟩ := g_if hf
              refine ald hx hb hk hP (isR_lt4 hk0) (rd_R4 hk0 _) q_11 dX5_standingOf_44 ?_
              refine lv_iload_n hx hb dX5_standingOf_45 rfl (lv_at hl 2 rfl) ?_
              refine lv_iand hx hb dX5_standingOf_46 ?_
              refine lv_if_eq (tgt := 57) hx hb dX5_standingOf_47 (by decide) (fun c_12 => ?_) (fun c_12 => ?_)
              · have hf := i_t c_12 hf
                refine lv_iinc (v := v4_6 + (1 : Int32)) (lv' := [(4, .int (v4_6 + (1 : Int32))), (3, .int v3_2), (2, .int v2_7), (0, .ref (X.ad k0)), (1, .int x1)]) hx hb dX5_standingOf_57 hl (k := 0) rfl rfl (by decide) rfl (fun ls hl => ?_)
                refine lv_goto (tgt := 20) hx hb dX5_standingOf_60 (by decide) ?_
                exact hkc20 _ (Option.some.inj hf).symm H locs ls hP hS (lv_sub hl [0, 1, 2, 3, 4] rfl)
              · have hf := i_f c_12 hf
                refine lv_iload_n hx hb dX5_standingOf_50 rfl (lv_at hl 2 rfl) ?_
                refine lv_iconst (v := (1 : Int32)) hx hb dX5_standingOf_51 (by decide) ?_
                refine lv_iload hx hb dX5_standingOf_52 (lv_at hl 0 rfl) ?_
                refine rw_ishl hx hb dX5_standingOf_54 ?_
                refine lv_ior hx hb dX5_standingOf_55 ?_
                refine lv_topi (fun v2_13 e_v2_13 => ?_)
                have hf := b_v hf e_v2_13
                refine lv_istore_n (lv' := [(2, .int v2_13), (4, .int v4_6), (3, .int v3_2), (0, .ref (X.ad k0)), (1, .int x1)]) hx hb dX5_standingOf_56 rfl hl (by decide) rfl (fun ls hl => ?_)
                refine lv_iinc (v := v4_6 + (1 : Int32)) (lv' := [(4, .int (v4_6 + (1 : Int32))), (2, .int v2_13), (3, .int v3_2), (0, .ref (X.ad k0)), (1, .int x1)]) hx hb dX5_standingOf_57 hl (k := 1) rfl rfl (by decide) rfl (fun ls hl => ?_)
                refine lv_goto (tgt := 20) hx hb dX5_standingOf_60 (by decide) ?_
                exact hkc20 _ (Option.some.inj hf).symm H locs ls hP hS (lv_sub hl [0, 2, 1, 3, 4] rfl)
        · intro v2_8 e H locs ls hP hS hl
          subst o20
          have hf := u1_e hf
          refine lv_iinc (v := v3_2 + (1 : Int32)) (lv' := [(3, .int (v3_2 + (1 : Int32))), (2, .int v2_8), (0, .ref (X.ad k0)), (1, .int x1)]) hx hb dX5_standingOf_63 hl (k := 0) rfl rfl (by decide) rfl (fun ls hl => ?_)
          refine lv_goto (tgt := 9) hx hb dX5_standingOf_66 (by decide) ?_
          exact hkc9 _ (Option.some.inj hf).symm H locs ls hP hS (lv_sub hl [0, 1, 2, 3] rfl)
    · intro v2_4 e H locs ls hP hS hl
      subst o9
      have hf := u1_e hf
      refine lv_iload_n hx hb dX5_standingOf_69 rfl (lv_at hl 0 rfl) ?_
      have hf := Option.some.inj hf
      exact ret_i hx hb hr hlocks hP hS hf dX5_standingOf_70
  exact key s.heap [] hP hS
theorem hd_X5_standingOf : Hd yX5_standingOf 1 := by decide +kernel
theorem k_X5_standingOf {p : Program} {l : Launch} {e : Env} {R : Room} {s : State} {m : MethodId} {args : Array Value} {below : List Frame} {meth : Method} {c : Code} {H : Heap} {locs : List Loc} {cells slots : Nat} {Q : State → Prop} {cc : ByteArray} {nL pc index : Nat} {ls : Array Slot} {rest : List Value} {X : En} {M : Mem} {H0 : Heap} {own : String} {g : Nat} {k0 : Nat} {x1 : Int32} {r : Int32} (hZ : Fx p c m s args X cc nL own) (hP : wd X M H) (hS : va_S X.A H0 H locs) (hsz : ls.size = nL) (hlk : Cond.methodLink own index yX5_standingOf ∈ lw_u) (hR : 1 + 1 ≤ R.frames ∧ 8 + (5 + 11) + 21 ≤ R.locals) (hW : (rest.map fun v => v.category).sum ≤ 8) (hdg : decode cc pc = .ok (.invokevirtual index, 3)) (hcs : cells ≤ R.cells ∧ slots ≤ R.slots) (hk0 : isR k0) (hf : fn_X5_standingOf g k0 x1 M = some r)
    (kk : ∀ (H1 : Heap) (locs1 : List Loc), wd X M H1 → va_S X.A H0 H1 locs1 → W p l e R s m args below meth c H1 locs1 cells slots Q (F0 m (pc + 3) ls (.int r :: rest))) : W p l e R s m args below meth c H locs cells slots Q (F0 m pc ls (.int x1 :: .ref (X.ad k0) :: rest)) :=
  cal_i (runV (As := [.int x1]) (rest := rest) hZ.1 hZ.2.1 hZ.2.2.1 hZ.2.2.2.1 hZ.2.2.2.2.1 hZ.2.2.2.2.2 hP (c_X5_standingOf g k0 x1 M hk0 r hf) wd_3_21 wd_3_19 wd_3_20 wd_1_4 hd_X5_standingOf (isR_lt0 hk0) (rd_R0 hk0 _) rfl rfl hlk hR hsz rfl hW hdg hcs) hS kk
/-! FrameRaiser.standing -/
def fn_X7_standing (g : Nat) (x1 : Int32) (M : Mem) : Option (Int32 × Mem) :=
  if (fn_X7_isSet x1 M) = 0 then
    (some ((-1 : Int32), M))
  else
    ((fn_X7_knownRelations g M).bind fun M_2 =>
    (fn_X5_standingOf g 9 x1 M_2).bind fun r_3 =>
    some (r_3, M_2))
theorem dX7_standing_0 : decode cX7_standing 0 = .ok (.aload_n 0, 1) := by decide +kernel
theorem dX7_standing_1 : decode cX7_standing 1 = .ok (.iload_n 1, 1) := by decide +kernel
theorem dX7_standing_2 : decode cX7_standing 2 = .ok (.invokevirtual 167, 3) := by decide +kernel
theorem dX7_standing_5 : decode cX7_standing 5 = .ok (.ifCond .ne 5, 3) := by decide +kernel
theorem dX7_standing_8 : decode cX7_standing 8 = .ok (.iconst (-1), 1) := by decide +kernel
theorem dX7_standing_9 : decode cX7_standing 9 = .ok (.ireturn, 1) := by decide +kernel
theorem dX7_standing_10 : decode cX7_standing 10 = .ok (.aload_n 0, 1) := by decide +kernel
theorem dX7_standing_11 : decode cX7_standing 11 = .ok (.invokevirtual 160, 3) := by decide +kernel
theorem dX7_standing_14 : decode cX7_standing 14 = .ok (.iload_n 1, 1) := by decide +kernel
theorem dX7_standing_15 : decode cX7_standing 15 = .ok (.invokevirtual 184, 3) := by decide +kernel
theorem dX7_standing_18 : decode cX7_standing 18 = .ok (.ireturn, 1) := by decide +kernel
set_option maxHeartbeats 4000000 in
set_option maxRecDepth 100000 in
theorem c_X7_standing {l : Launch} {X : En} (g : Nat) (x1 : Int32) (M : Mem) (r : Int32) (M9 : Mem) (hf : fn_X7_standing g x1 M = some (r, M9)) : Cn l X yX7_standing cX7_standing 2 (some .int) 4 96 [.ref (X.ad 0), .int x1] M (Qi X r M9) := by
  refine Met.ofW (cc := cX7_standing) (maxL := 2) (ret := (some .int)) (by decide) rfl ?_
  intro p e s m args below meth c s₁ B hml hv
  obtain ⟨rfl, hP, hk⟩ := hv
  have hx := B.exec
  have hb := B.bytes
  have hr := B.returns
  have hlocks := B.notSynchronized
  have hts : ∀ w ∈ lw_u, w.before ([.ref (X.ad 0), .int x1] : List Value).toArray s = true := fun w hw => atoms_spec (ws := Cond.code yX7_standing cX7_standing 2 (some .int) :: lw_u) B.pre w (List.mem_cons_of_mem _ hw)
  have hown : s.vm.findClass RX7 = some m.cls := findClass_of_methodNamed B.named
  have hZ : Fx p c m s ([.ref (X.ad 0), .int x1] : List Value).toArray X cX7_standing 2 RX7 := ⟨hx, hb, hml, hts, hown, hk⟩
  have hS : va_S X.A s.heap s.heap [] := va_S.rf
  have hl := lv_entry ([.ref (X.ad 0), .int x1]) (n := 2) (Nat.le_of_ble_eq_true rfl)
  rw [lg_entry_eq]
  generalize (lg_sl ([.ref (X.ad 0), .int x1]) ++ List.replicate (2 - (lg_sl ([.ref (X.ad 0), .int x1])).length) Slot.unset).toArray = ls at hl ⊢
  have hl : lv_has ls 2 [(0, .ref (X.ad 0)), (1, .int x1)] := hl
  show WW p l e 4 96 s m [.ref (X.ad 0), .int x1] below meth c X (Qi X r M9) s.heap [] 0 ls []
  have hP : wd X M s.heap := hP
  unfold fn_X7_standing at hf
  have key : ∀ (H : Heap) (locs : List Loc), wd X M H → va_S X.A s.heap H locs → WW p l e 4 96 s m [.ref (X.ad 0), .int x1] below meth c X (Qi X r M9) H locs 0 ls [] := by
    intro H locs hP hS
    refine lv_aload_n hx hb dX7_standing_0 rfl (lv_at hl 0 rfl) ?_
    refine lv_iload_n hx hb dX7_standing_1 rfl (lv_at hl 1 rfl) ?_
    refine k_X7_isSet hZ hP hS hl.1 wd_2_221 ⟨Nat.le_of_ble_eq_true rfl, Nat.le_of_ble_eq_true rfl⟩ (Nat.le_of_ble_eq_true rfl) dX7_standing_2 ⟨Nat.zero_le _, Nat.zero_le _⟩ (fun H locs hP hS => ?_)
    refine lv_if_ne (tgt := 10) hx hb dX7_standing_5 (by decide) (fun c_1 => ?_) (fun c_1 => ?_)
    · have hf := i_f c_1 hf
      refine lv_aload_n hx hb dX7_standing_10 rfl (lv_at hl 0 rfl) ?_
      obtain ⟨M_2, h_M_2, hf⟩ := b_d hf
      refine k_X7_knownRelations hZ hP hS hl.1 wd_2_185 ⟨Nat.le_of_ble_eq_true rfl, Nat.le_of_ble_eq_true rfl⟩ (Nat.le_of_ble_eq_true rfl) dX7_standing_11 ⟨Nat.zero_le _, Nat.zero_le _⟩ h_M_2 (fun H locs hP hS => ?_)
      refine lv_iload_n hx hb dX7_standing_14 rfl (lv_at hl 1 rfl) ?_
      obtain ⟨r_3, h_r_3, hf⟩ := b_d hf
      refine k_X5_standingOf hZ hP hS hl.1 wd_3_18 ⟨Nat.le_of_ble_eq_true rfl, Nat.le_of_ble_eq_true rfl⟩ (Nat.le_of_ble_eq_true rfl) dX7_standing_15 ⟨Nat.zero_le _, Nat.zero_le _⟩ isR_9 h_r_3 (fun H locs hP hS => ?_)
      have hf := Option.some.inj hf
      obtain ⟨e1, e2⟩ := Prod.mk.inj hf
      rw [e2] at hP
      exact ret_i hx hb hr hlocks hP hS e1 dX7_standing_18
    · have hf := i_t c_1 hf
      refine lv_iconst (v := (-1 : Int32)) hx hb dX7_standing_8 (by decide) ?_
      have hf := Option.some.inj hf
      obtain ⟨e1, e2⟩ := Prod.mk.inj hf
      rw [e2] at hP
      exact ret_i hx hb hr hlocks hP hS e1 dX7_standing_9
  exact key s.heap [] hP hS
theorem hd_X7_standing : Hd yX7_standing 1 := by decide +kernel
theorem k_X7_standing {p : Program} {l : Launch} {e : Env} {R : Room} {s : State} {m : MethodId} {args : Array Value} {below : List Frame} {meth : Method} {c : Code} {H : Heap} {locs : List Loc} {cells slots : Nat} {Q : State → Prop} {cc : ByteArray} {nL pc index : Nat} {ls : Array Slot} {rest : List Value} {X : En} {M : Mem} {H0 : Heap} {own : String} {g : Nat} {x1 : Int32} {r : Int32} {M9 : Mem} (hZ : Fx p c m s args X cc nL own) (hP : wd X M H) (hS : va_S X.A H0 H locs) (hsz : ls.size = nL) (hlk : Cond.methodLink own index yX7_standing ∈ lw_u) (hR : 4 + 1 ≤ R.frames ∧ 8 + (2 + 11) + 96 ≤ R.locals) (hW : (rest.map fun v => v.category).sum ≤ 8) (hdg : decode cc pc = .ok (.invokevirtual index, 3)) (hcs : cells ≤ R.cells ∧ slots ≤ R.slots) (hf : fn_X7_standing g x1 M = some (r, M9))
    (kk : ∀ (H1 : Heap) (locs1 : List Loc), wd X M9 H1 → va_S X.A H0 H1 locs1 → W p l e R s m args below meth c H1 locs1 cells slots Q (F0 m (pc + 3) ls (.int r :: rest))) : W p l e R s m args below meth c H locs cells slots Q (F0 m pc ls (.int x1 :: .ref (X.ad 0) :: rest)) :=
  cal_i (runV (As := [.int x1]) (rest := rest) hZ.1 hZ.2.1 hZ.2.2.1 hZ.2.2.2.1 hZ.2.2.2.2.1 hZ.2.2.2.2.2 hP (c_X7_standing g x1 M r M9 hf) wd_3_17 wd_3_15 wd_3_16 wd_1_1 hd_X7_standing (by decide) rfl rfl rfl hlk hR hsz rfl hW hdg hcs) hS kk
/-! FrameRaiser$Relations.firstWay -/
def bd_X5_firstWay_2 (k0 : Nat) (x1 : Int32) (x2 : Int32) (M : Mem) : (Int32) → Option ((Int32) ⊕ ((Unit) ⊕ (Int32))) :=
  u1 fun v3_1 =>
  if (6 : Int32) ≤ v3_1 then
    (some (.inr (.inl ())))
  else
    ((fn_X5_isFree k0 x1 v3_1 x2 M).bind fun r_3 =>
    if r_3 = 0 then
      (some (.inl (v3_1 + (1 : Int32))))
    else
      (some (.inr (.inr v3_1))))
def fn_X5_firstWay (g : Nat) (k0 : Nat) (x1 : Int32) (x2 : Int32) (M : Mem) : Option (Int32) :=
  (lpN g (bd_X5_firstWay_2 k0 x1 x2 M) (0 : Int32)).bind (el (fun (_ : Unit) =>
    some (-9 : Int32)) (fun rr => some rr))
theorem dX5_firstWay_0 : decode cX5_firstWay 0 = .ok (.iconst 0, 1) := by decide +kernel
theorem dX5_firstWay_1 : decode cX5_firstWay 1 = .ok (.istore_n 3, 1) := by decide +kernel
theorem dX5_firstWay_2 : decode cX5_firstWay 2 = .ok (.iload_n 3, 1) := by decide +kernel
theorem dX5_firstWay_3 : decode cX5_firstWay 3 = .ok (.bipush 6, 2) := by decide +kernel
theorem dX5_firstWay_5 : decode cX5_firstWay 5 = .ok (.if_icmp .ge 21, 3) := by decide +kernel
theorem dX5_firstWay_8 : decode cX5_firstWay 8 = .ok (.aload_n 0, 1) := by decide +kernel
theorem dX5_firstWay_9 : decode cX5_firstWay 9 = .ok (.iload_n 1, 1) := by decide +kernel
theorem dX5_firstWay_10 : decode cX5_firstWay 10 = .ok (.iload_n 3, 1) := by decide +kernel
theorem dX5_firstWay_11 : decode cX5_firstWay 11 = .ok (.iload_n 2, 1) := by decide +kernel
theorem dX5_firstWay_12 : decode cX5_firstWay 12 = .ok (.invokevirtual 60, 3) := by decide +kernel
theorem dX5_firstWay_15 : decode cX5_firstWay 15 = .ok (.ifCond .eq 5, 3) := by decide +kernel
theorem dX5_firstWay_18 : decode cX5_firstWay 18 = .ok (.iload_n 3, 1) := by decide +kernel
theorem dX5_firstWay_19 : decode cX5_firstWay 19 = .ok (.ireturn, 1) := by decide +kernel
theorem dX5_firstWay_20 : decode cX5_firstWay 20 = .ok (.iinc 3 1, 3) := by decide +kernel
theorem dX5_firstWay_23 : decode cX5_firstWay 23 = .ok (.goto (-21), 3) := by decide +kernel
theorem dX5_firstWay_26 : decode cX5_firstWay 26 = .ok (.bipush (-9), 2) := by decide +kernel
theorem dX5_firstWay_28 : decode cX5_firstWay 28 = .ok (.ireturn, 1) := by decide +kernel
set_option maxHeartbeats 4000000 in
set_option maxRecDepth 100000 in
theorem c_X5_firstWay {l : Launch} {X : En} (g : Nat) (k0 : Nat) (x1 : Int32) (x2 : Int32) (M : Mem) (hk0 : isR k0) (r : Int32) (hf : fn_X5_firstWay g k0 x1 x2 M = some r) : Cn l X yX5_firstWay cX5_firstWay 4 (some .int) 1 23 [.ref (X.ad k0), .int x1, .int x2] M (Qi X r M) := by
  refine Met.ofW (cc := cX5_firstWay) (maxL := 4) (ret := (some .int)) (by decide) rfl ?_
  intro p e s m args below meth c s₁ B hml hv
  obtain ⟨rfl, hP, hk⟩ := hv
  have hx := B.exec
  have hb := B.bytes
  have hr := B.returns
  have hlocks := B.notSynchronized
  have hts : ∀ w ∈ lw_u, w.before ([.ref (X.ad k0), .int x1, .int x2] : List Value).toArray s = true := fun w hw => atoms_spec (ws := Cond.code yX5_firstWay cX5_firstWay 4 (some .int) :: lw_u) B.pre w (List.mem_cons_of_mem _ hw)
  have hown : s.vm.findClass RX5 = some m.cls := findClass_of_methodNamed B.named
  have hZ : Fx p c m s ([.ref (X.ad k0), .int x1, .int x2] : List Value).toArray X cX5_firstWay 4 RX5 := ⟨hx, hb, hml, hts, hown, hk⟩
  have hS : va_S X.A s.heap s.heap [] := va_S.rf
  have hl := lv_entry ([.ref (X.ad k0), .int x1, .int x2]) (n := 4) (Nat.le_of_ble_eq_true rfl)
  rw [lg_entry_eq]
  generalize (lg_sl ([.ref (X.ad k0), .int x1, .int x2]) ++ List.replicate (4 - (lg_sl ([.ref (X.ad k0), .int x1, .int x2])).length) Slot.unset).toArray = ls at hl ⊢
  have hl : lv_has ls 4 [(0, .ref (X.ad k0)), (1, .int x1), (2, .int x2)] := hl
  show WW p l e 1 23 s m [.ref (X.ad k0), .int x1, .int x2] below meth c X (Qi X r M) s.heap [] 0 ls []
  have hP : wd X M s.heap := hP
  unfold fn_X5_firstWay at hf
  have key : ∀ (H : Heap) (locs : List Loc), wd X M H → va_S X.A s.heap H locs → WW p l e 1 23 s m [.ref (X.ad k0), .int x1, .int x2] below meth c X (Qi X r M) H locs 0 ls [] := by
    intro H locs hP hS
    refine lv_iconst (v := (0 : Int32)) hx hb dX5_firstWay_0 (by decide) ?_
    refine lv_istore_n (lv' := [(3, .int (0 : Int32)), (0, .ref (X.ad k0)), (1, .int x1), (2, .int x2)]) hx hb dX5_firstWay_1 rfl hl (by decide) rfl (fun ls hl => ?_)
    obtain ⟨o2, ho2, hf⟩ := b_d hf
    refine lp_rule (b := bd_X5_firstWay_2 k0 x1 x2 M) (P := fun w : Int32 => ∀ (H : Heap) (locs : List Loc) (ls : Array Slot), wd X M H → va_S X.A s.heap H locs → lv_has ls 4 [(3, .int w), (0, .ref (X.ad k0)), (1, .int x1), (2, .int x2)] → WW p l e 1 23 s m [.ref (X.ad k0), .int x1, .int x2] below meth c X (Qi X r M) H locs 2 ls []) (K := fun o => (o = .inl () → ∀ (H : Heap) (locs : List Loc) (ls : Array Slot), wd X M H → va_S X.A s.heap H locs → lv_has ls 4 [] → WW p l e 1 23 s m [.ref (X.ad k0), .int x1, .int x2] below meth c X (Qi X r M) H locs 26 ls []) ∧ (∀ rr : Int32, o = .inr rr → rr = r)) ?_ g (0 : Int32) o2 ho2 ?_ H locs ls hP hS (lv_sub hl [0, 1, 2, 3] rfl)
    · rintro v3_1 o hf hkc2 hke2 H locs ls hP hS hl
      have hf := u1_e hf
      refine lv_iload_n hx hb dX5_firstWay_2 rfl (lv_at hl 0 rfl) ?_
      refine lv_bipush (v := (6 : Int32)) hx hb dX5_firstWay_3 (by decide) ?_
      refine lv_icmp_ge (tgt := 26) hx hb dX5_firstWay_5 (by decide) (fun c_2 => ?_) (fun c_2 => ?_)
      · have hf := i_t c_2 hf
        exact (hke2 _ (Option.some.inj hf).symm).1  rfl H locs ls hP hS (lv_sub hl [] rfl)
      · have hf := i_f c_2 hf
        refine lv_aload_n hx hb dX5_firstWay_8 rfl (lv_at hl 1 rfl) ?_
        refine lv_iload_n hx hb dX5_firstWay_9 rfl (lv_at hl 2 rfl) ?_
        refine lv_iload_n hx hb dX5_firstWay_10 rfl (lv_at hl 0 rfl) ?_
        refine lv_iload_n hx hb dX5_firstWay_11 rfl (lv_at hl 3 rfl) ?_
        obtain ⟨r_3, h_r_3, hf⟩ := b_d hf
        refine k_X5_isFree hZ hP hS hl.1 wd_3_42 ⟨Nat.le_of_ble_eq_true rfl, Nat.le_of_ble_eq_true rfl⟩ (Nat.le_of_ble_eq_true rfl) dX5_firstWay_12 ⟨Nat.zero_le _, Nat.zero_le _⟩ hk0 h_r_3 (fun H locs hP hS => ?_)
        refine lv_if_eq (tgt := 20) hx hb dX5_firstWay_15 (by decide) (fun c_4 => ?_) (fun c_4 => ?_)
        · have hf := i_t c_4 hf
          refine lv_iinc (v := v3_1 + (1 : Int32)) (lv' := [(3, .int (v3_1 + (1 : Int32))), (0, .ref (X.ad k0)), (1, .int x1), (2, .int x2)]) hx hb dX5_firstWay_20 hl (k := 0) rfl rfl (by decide) rfl (fun ls hl => ?_)
          refine lv_goto (tgt := 2) hx hb dX5_firstWay_23 (by decide) ?_
          exact hkc2 _ (Option.some.inj hf).symm H locs ls hP hS (lv_sub hl [0, 1, 2, 3] rfl)
        · have hf := i_f c_4 hf
          refine lv_iload_n hx hb dX5_firstWay_18 rfl (lv_at hl 0 rfl) ?_
          have hf := (hke2 _ (Option.some.inj hf).symm).2 _ rfl
          exact ret_i hx hb hr hlocks hP hS hf dX5_firstWay_19
    · refine ⟨?_, ?_⟩
      · intro  e H locs ls hP hS hl
        subst o2
        have hf := el_l hf
        refine lv_bipush (v := (-9 : Int32)) hx hb dX5_firstWay_26 (by decide) ?_
        have hf := Option.some.inj hf
        exact ret_i hx hb hr hlocks hP hS hf dX5_firstWay_28
      · intro rr e
        subst o2
        have hf := el_r hf
        exact Option.some.inj hf
  exact key s.heap [] hP hS
theorem hd_X5_firstWay : Hd yX5_firstWay 2 := by decide +kernel
theorem k_X5_firstWay {p : Program} {l : Launch} {e : Env} {R : Room} {s : State} {m : MethodId} {args : Array Value} {below : List Frame} {meth : Method} {c : Code} {H : Heap} {locs : List Loc} {cells slots : Nat} {Q : State → Prop} {cc : ByteArray} {nL pc index : Nat} {ls : Array Slot} {rest : List Value} {X : En} {M : Mem} {H0 : Heap} {own : String} {g : Nat} {k0 : Nat} {x1 : Int32} {x2 : Int32} {r : Int32} (hZ : Fx p c m s args X cc nL own) (hP : wd X M H) (hS : va_S X.A H0 H locs) (hsz : ls.size = nL) (hlk : Cond.methodLink own index yX5_firstWay ∈ lw_u) (hR : 1 + 1 ≤ R.frames ∧ 8 + (4 + 11) + 23 ≤ R.locals) (hW : (rest.map fun v => v.category).sum ≤ 8) (hdg : decode cc pc = .ok (.invokevirtual index, 3)) (hcs : cells ≤ R.cells ∧ slots ≤ R.slots) (hk0 : isR k0) (hf : fn_X5_firstWay g k0 x1 x2 M = some r)
    (kk : ∀ (H1 : Heap) (locs1 : List Loc), wd X M H1 → va_S X.A H0 H1 locs1 → W p l e R s m args below meth c H1 locs1 cells slots Q (F0 m (pc + 3) ls (.int r :: rest))) : W p l e R s m args below meth c H locs cells slots Q (F0 m pc ls (.int x2 :: .int x1 :: .ref (X.ad k0) :: rest)) :=
  cal_i (runV (As := [.int x1, .int x2]) (rest := rest) hZ.1 hZ.2.1 hZ.2.2.1 hZ.2.2.2.1 hZ.2.2.2.2.1 hZ.2.2.2.2.2 hP (c_X5_firstWay g k0 x1 x2 M hk0 r hf) wd_3_41 wd_3_39 wd_3_40 wd_1_4 hd_X5_firstWay (isR_lt0 hk0) (rd_R0 hk0 _) rfl rfl hlk hR hsz rfl hW hdg hcs) hS kk
/-! FrameRaiser$Planner.fillRow -/
def bd_X4_fillRow_8 (g : Nat) (x1 : Int32) (M : Mem) : (Int32 × Int32 × Int32) → Option ((Int32 × Int32 × Int32) ⊕ (Int32 × Int32)) :=
  u3 fun v2_3 v3_2 v4_1 =>
  if (M 9 5) ≤ v4_1 then
    (some (.inr (v2_3, v3_2)))
  else
    (bv (x1 &&& ((sl (1 : Int32) v4_1) ^^^ (-1 : Int32))) fun v5_7 =>
    if v5_7 = x1 then
      (some (.inl (v2_3, v3_2, v4_1 + (1 : Int32))))
    else
      (if inb v5_7 256 then
      if (M 15 (ix v5_7)) ≤ 0 then
        (some (.inl (v2_3, v3_2, v4_1 + (1 : Int32))))
      else
        ((fn_X5_firstWay g 9 v4_1 v5_7 M).bind fun r_11 =>
        if r_11 = (-9 : Int32) then
          (some (.inl (v2_3, v3_2, v4_1 + (1 : Int32))))
        else
          (if inb v5_7 256 then
          bv (v2_3 + (M 15 (ix v5_7))) fun v2_14 =>
          if inb v5_7 256 then
          bv (mn v3_2 (M 16 (ix v5_7))) fun v3_16 =>
          some (.inl (v2_14, v3_16, v4_1 + (1 : Int32)))
          else none
          else none))
      else none))
def jn_X4_fillRow_135 (s_24 : Int32) (s_25 : Int32) (M_26 : Mem) : Option (Mem) :=
  if inb s_25 256 then
  bv (st M_26 16 (ix s_25) s_24) fun M_27 =>
  some M_27
  else none
def fn_X4_fillRow (g : Nat) (x1 : Int32) (M : Mem) : Option (Mem) :=
  (lpN g (bd_X4_fillRow_8 g x1 M) ((0 : Int32), (8 : Int32), (0 : Int32))).bind (u2 fun v2_5 v3_4 =>
    if inb x1 256 then
    bv (st M 15 (ix x1) v2_5) fun M_17 =>
    (fn_X5_propsOf g 9 x1 M_17).bind fun r_19 =>
    if inb x1 256 then
    bv (st M_17 19 (ix x1) r_19) fun M_20 =>
    if v2_5 = 0 then
      (jn_X4_fillRow_135 (-9 : Int32) x1 M_20)
    else
      (if inb x1 256 then
      jn_X4_fillRow_135 (mx v3_4 (M_20 19 (ix x1))) x1 M_20
      else none)
    else none
    else none)
theorem dX4_fillRow_0 : decode cX4_fillRow 0 = .ok (.iconst 0, 1) := by decide +kernel
theorem dX4_fillRow_1 : decode cX4_fillRow 1 = .ok (.istore_n 2, 1) := by decide +kernel
theorem dX4_fillRow_2 : decode cX4_fillRow 2 = .ok (.bipush 8, 2) := by decide +kernel
theorem dX4_fillRow_4 : decode cX4_fillRow 4 = .ok (.istore_n 3, 1) := by decide +kernel
theorem dX4_fillRow_5 : decode cX4_fillRow 5 = .ok (.iconst 0, 1) := by decide +kernel
theorem dX4_fillRow_6 : decode cX4_fillRow 6 = .ok (.istore 4, 2) := by decide +kernel
theorem dX4_fillRow_8 : decode cX4_fillRow 8 = .ok (.iload 4, 2) := by decide +kernel
theorem dX4_fillRow_10 : decode cX4_fillRow 10 = .ok (.aload_n 0, 1) := by decide +kernel
theorem dX4_fillRow_11 : decode cX4_fillRow 11 = .ok (.getfield 35, 3) := by decide +kernel
theorem dX4_fillRow_14 : decode cX4_fillRow 14 = .ok (.getfield 39, 3) := by decide +kernel
theorem dX4_fillRow_17 : decode cX4_fillRow 17 = .ok (.if_icmp .ge 73, 3) := by decide +kernel
theorem dX4_fillRow_20 : decode cX4_fillRow 20 = .ok (.iload_n 1, 1) := by decide +kernel
theorem dX4_fillRow_21 : decode cX4_fillRow 21 = .ok (.iconst 1, 1) := by decide +kernel
theorem dX4_fillRow_22 : decode cX4_fillRow 22 = .ok (.iload 4, 2) := by decide +kernel
theorem dX4_fillRow_24 : decode cX4_fillRow 24 = .ok (.ishl, 1) := by decide +kernel
theorem dX4_fillRow_25 : decode cX4_fillRow 25 = .ok (.iconst (-1), 1) := by decide +kernel
theorem dX4_fillRow_26 : decode cX4_fillRow 26 = .ok (.ixor, 1) := by decide +kernel
theorem dX4_fillRow_27 : decode cX4_fillRow 27 = .ok (.iand, 1) := by decide +kernel
theorem dX4_fillRow_28 : decode cX4_fillRow 28 = .ok (.istore 5, 2) := by decide +kernel
theorem dX4_fillRow_30 : decode cX4_fillRow 30 = .ok (.iload 5, 2) := by decide +kernel
theorem dX4_fillRow_32 : decode cX4_fillRow 32 = .ok (.iload_n 1, 1) := by decide +kernel
theorem dX4_fillRow_33 : decode cX4_fillRow 33 = .ok (.if_icmp .eq 51, 3) := by decide +kernel
theorem dX4_fillRow_36 : decode cX4_fillRow 36 = .ok (.aload_n 0, 1) := by decide +kernel
theorem dX4_fillRow_37 : decode cX4_fillRow 37 = .ok (.getfield 9, 3) := by decide +kernel
theorem dX4_fillRow_40 : decode cX4_fillRow 40 = .ok (.iload 5, 2) := by decide +kernel
theorem dX4_fillRow_42 : decode cX4_fillRow 42 = .ok (.iaload, 1) := by decide +kernel
theorem dX4_fillRow_43 : decode cX4_fillRow 43 = .ok (.ifCond .le 41, 3) := by decide +kernel
theorem dX4_fillRow_46 : decode cX4_fillRow 46 = .ok (.aload_n 0, 1) := by decide +kernel
theorem dX4_fillRow_47 : decode cX4_fillRow 47 = .ok (.getfield 35, 3) := by decide +kernel
theorem dX4_fillRow_50 : decode cX4_fillRow 50 = .ok (.iload 4, 2) := by decide +kernel
theorem dX4_fillRow_52 : decode cX4_fillRow 52 = .ok (.iload 5, 2) := by decide +kernel
theorem dX4_fillRow_54 : decode cX4_fillRow 54 = .ok (.invokevirtual 48, 3) := by decide +kernel
theorem dX4_fillRow_57 : decode cX4_fillRow 57 = .ok (.bipush (-9), 2) := by decide +kernel
theorem dX4_fillRow_59 : decode cX4_fillRow 59 = .ok (.if_icmp .eq 25, 3) := by decide +kernel
theorem dX4_fillRow_62 : decode cX4_fillRow 62 = .ok (.iload_n 2, 1) := by decide +kernel
theorem dX4_fillRow_63 : decode cX4_fillRow 63 = .ok (.aload_n 0, 1) := by decide +kernel
theorem dX4_fillRow_64 : decode cX4_fillRow 64 = .ok (.getfield 9, 3) := by decide +kernel
theorem dX4_fillRow_67 : decode cX4_fillRow 67 = .ok (.iload 5, 2) := by decide +kernel
theorem dX4_fillRow_69 : decode cX4_fillRow 69 = .ok (.iaload, 1) := by decide +kernel
theorem dX4_fillRow_70 : decode cX4_fillRow 70 = .ok (.iadd, 1) := by decide +kernel
theorem dX4_fillRow_71 : decode cX4_fillRow 71 = .ok (.istore_n 2, 1) := by decide +kernel
theorem dX4_fillRow_72 : decode cX4_fillRow 72 = .ok (.iload_n 3, 1) := by decide +kernel
theorem dX4_fillRow_73 : decode cX4_fillRow 73 = .ok (.aload_n 0, 1) := by decide +kernel
theorem dX4_fillRow_74 : decode cX4_fillRow 74 = .ok (.getfield 15, 3) := by decide +kernel
theorem dX4_fillRow_77 : decode cX4_fillRow 77 = .ok (.iload 5, 2) := by decide +kernel
theorem dX4_fillRow_79 : decode cX4_fillRow 79 = .ok (.iaload, 1) := by decide +kernel
theorem dX4_fillRow_80 : decode cX4_fillRow 80 = .ok (.invokestatic 52, 3) := by decide +kernel
theorem dX4_fillRow_83 : decode cX4_fillRow 83 = .ok (.istore_n 3, 1) := by decide +kernel
theorem dX4_fillRow_84 : decode cX4_fillRow 84 = .ok (.iinc 4 1, 3) := by decide +kernel
theorem dX4_fillRow_87 : decode cX4_fillRow 87 = .ok (.goto (-79), 3) := by decide +kernel
theorem dX4_fillRow_90 : decode cX4_fillRow 90 = .ok (.aload_n 0, 1) := by decide +kernel
theorem dX4_fillRow_91 : decode cX4_fillRow 91 = .ok (.getfield 9, 3) := by decide +kernel
theorem dX4_fillRow_94 : decode cX4_fillRow 94 = .ok (.iload_n 1, 1) := by decide +kernel
theorem dX4_fillRow_95 : decode cX4_fillRow 95 = .ok (.iload_n 2, 1) := by decide +kernel
theorem dX4_fillRow_96 : decode cX4_fillRow 96 = .ok (.iastore, 1) := by decide +kernel
theorem dX4_fillRow_97 : decode cX4_fillRow 97 = .ok (.aload_n 0, 1) := by decide +kernel
theorem dX4_fillRow_98 : decode cX4_fillRow 98 = .ok (.getfield 24, 3) := by decide +kernel
theorem dX4_fillRow_101 : decode cX4_fillRow 101 = .ok (.iload_n 1, 1) := by decide +kernel
theorem dX4_fillRow_102 : decode cX4_fillRow 102 = .ok (.aload_n 0, 1) := by decide +kernel
theorem dX4_fillRow_103 : decode cX4_fillRow 103 = .ok (.getfield 35, 3) := by decide +kernel
theorem dX4_fillRow_106 : decode cX4_fillRow 106 = .ok (.iload_n 1, 1) := by decide +kernel
theorem dX4_fillRow_107 : decode cX4_fillRow 107 = .ok (.invokevirtual 57, 3) := by decide +kernel
theorem dX4_fillRow_110 : decode cX4_fillRow 110 = .ok (.iastore, 1) := by decide +kernel
theorem dX4_fillRow_111 : decode cX4_fillRow 111 = .ok (.aload_n 0, 1) := by decide +kernel
theorem dX4_fillRow_112 : decode cX4_fillRow 112 = .ok (.getfield 15, 3) := by decide +kernel
theorem dX4_fillRow_115 : decode cX4_fillRow 115 = .ok (.iload_n 1, 1) := by decide +kernel
theorem dX4_fillRow_116 : decode cX4_fillRow 116 = .ok (.iload_n 2, 1) := by decide +kernel
theorem dX4_fillRow_117 : decode cX4_fillRow 117 = .ok (.ifCond .ne 8, 3) := by decide +kernel
theorem dX4_fillRow_120 : decode cX4_fillRow 120 = .ok (.bipush (-9), 2) := by decide +kernel
theorem dX4_fillRow_122 : decode cX4_fillRow 122 = .ok (.goto 13, 3) := by decide +kernel
theorem dX4_fillRow_125 : decode cX4_fillRow 125 = .ok (.iload_n 3, 1) := by decide +kernel
theorem dX4_fillRow_126 : decode cX4_fillRow 126 = .ok (.aload_n 0, 1) := by decide +kernel
theorem dX4_fillRow_127 : decode cX4_fillRow 127 = .ok (.getfield 24, 3) := by decide +kernel
theorem dX4_fillRow_130 : decode cX4_fillRow 130 = .ok (.iload_n 1, 1) := by decide +kernel
theorem dX4_fillRow_131 : decode cX4_fillRow 131 = .ok (.iaload, 1) := by decide +kernel
theorem dX4_fillRow_132 : decode cX4_fillRow 132 = .ok (.invokestatic 61, 3) := by decide +kernel
theorem dX4_fillRow_135 : decode cX4_fillRow 135 = .ok (.iastore, 1) := by decide +kernel
theorem dX4_fillRow_136 : decode cX4_fillRow 136 = .ok (.return_, 1) := by decide +kernel
set_option maxHeartbeats 4000000 in
set_option maxRecDepth 100000 in
theorem c_X4_fillRow {l : Launch} {X : En} (g : Nat) (x1 : Int32) (M : Mem) (M9 : Mem) (hf : fn_X4_fillRow g x1 M = some M9) : Cn l X yX4_fillRow cX4_fillRow 6 none 2 46 [.ref (X.ad 14), .int x1] M (Qv X M9) := by
  refine Met.ofW (cc := cX4_fillRow) (maxL := 6) (ret := none) (by decide) rfl ?_
  intro p e s m args below meth c s₁ B hml hv
  obtain ⟨rfl, hP, hk⟩ := hv
  have hx := B.exec
  have hb := B.bytes
  have hr := B.returns
  have hlocks := B.notSynchronized
  have hts : ∀ w ∈ lw_u, w.before ([.ref (X.ad 14), .int x1] : List Value).toArray s = true := fun w hw => atoms_spec (ws := Cond.code yX4_fillRow cX4_fillRow 6 none :: lw_u) B.pre w (List.mem_cons_of_mem _ hw)
  have hown : s.vm.findClass RX4 = some m.cls := findClass_of_methodNamed B.named
  have hZ : Fx p c m s ([.ref (X.ad 14), .int x1] : List Value).toArray X cX4_fillRow 6 RX4 := ⟨hx, hb, hml, hts, hown, hk⟩
  have hS : va_S X.A s.heap s.heap [] := va_S.rf
  have hl := lv_entry ([.ref (X.ad 14), .int x1]) (n := 6) (Nat.le_of_ble_eq_true rfl)
  rw [lg_entry_eq]
  generalize (lg_sl ([.ref (X.ad 14), .int x1]) ++ List.replicate (6 - (lg_sl ([.ref (X.ad 14), .int x1])).length) Slot.unset).toArray = ls at hl ⊢
  have hl : lv_has ls 6 [(0, .ref (X.ad 14)), (1, .int x1)] := hl
  show WW p l e 2 46 s m [.ref (X.ad 14), .int x1] below meth c X (Qv X M9) s.heap [] 0 ls []
  have hP : wd X M s.heap := hP
  have jn135 : ∀ (s_24 : Int32) (s_25 : Int32) (M_26 : Mem), jn_X4_fillRow_135 s_24 s_25 M_26 = some M9 → ∀ (H : Heap) (locs : List Loc) (ls : Array Slot), wd X M_26 H → va_S X.A s.heap H locs → lv_has ls 6 [] → WW p l e 2 46 s m [.ref (X.ad 14), .int x1] below meth c X (Qv X M9) H locs 135 ls [.int s_24, .int s_25, .ref (X.ad 16)] := by
    intro s_24 s_25 M_26 hf H locs ls hP hS hl
    unfold jn_X4_fillRow_135 at hf
    obtain ⟨q_28, hf⟩ := g_if hf
    refine ast hx hb hk hP hS (by decide) (fun _ => rfl) q_28 dX4_fillRow_135 (fun H locs M_27 e_M_27 hP hS => ?_)
    have hf := b_v hf e_M_27
    have hf := Option.some.inj hf
    rw [hf] at hP
    exact ret_v hx hb hr hlocks hP hS dX4_fillRow_136
  unfold fn_X4_fillRow at hf
  have key : ∀ (H : Heap) (locs : List Loc), wd X M H → va_S X.A s.heap H locs → WW p l e 2 46 s m [.ref (X.ad 14), .int x1] below meth c X (Qv X M9) H locs 0 ls [] := by
    intro H locs hP hS
    refine lv_iconst (v := (0 : Int32)) hx hb dX4_fillRow_0 (by decide) ?_
    refine lv_istore_n (lv' := [(2, .int (0 : Int32)), (0, .ref (X.ad 14)), (1, .int x1)]) hx hb dX4_fillRow_1 rfl hl (by decide) rfl (fun ls hl => ?_)
    refine lv_bipush (v := (8 : Int32)) hx hb dX4_fillRow_2 (by decide) ?_
    refine lv_istore_n (lv' := [(3, .int (8 : Int32)), (2, .int (0 : Int32)), (0, .ref (X.ad 14)), (1, .int x1)]) hx hb dX4_fillRow_4 rfl hl (by decide) rfl (fun ls hl => ?_)
    refine lv_iconst (v := (0 : Int32)) hx hb dX4_fillRow_5 (by decide) ?_
    refine lv_istore (lv' := [(4, .int (0 : Int32)), (3, .int (8 : Int32)), (2, .int (0 : Int32)), (0, .ref (X.ad 14)), (1, .int x1)]) hx hb dX4_fillRow_6 hl (by decide) rfl (fun ls hl => ?_)
    obtain ⟨o8, ho8, hf⟩ := b_d hf
    refine lp_rule (b := bd_X4_fillRow_8 g x1 M) (P := fun w : Int32 × Int32 × Int32 => ∀ (H : Heap) (locs : List Loc) (ls : Array Slot), wd X M H → va_S X.A s.heap H locs → lv_has ls 6 [(4, .int w.2.2), (3, .int w.2.1), (2, .int w.1), (0, .ref (X.ad 14)), (1, .int x1)] → WW p l e 2 46 s m [.ref (X.ad 14), .int x1] below meth c X (Qv X M9) H locs 8 ls []) (K := fun o => ∀ (v2_5 : Int32) (v3_4 : Int32), o = (v2_5, v3_4) → ∀ (H : Heap) (locs : List Loc) (ls : Array Slot), wd X M H → va_S X.A s.heap H locs → lv_has ls 6 [(3, .int v3_4), (2, .int v2_5), (0, .ref (X.ad 14)), (1, .int x1)] → WW p l e 2 46 s m [.ref (X.ad 14), .int x1] below meth c X (Qv X M9) H locs 90 ls []) ?_ g ((0 : Int32), (8 : Int32), (0 : Int32)) o8 ho8 ?_ H locs ls hP hS (lv_sub hl [0, 1, 2, 3, 4] rfl)
    · rintro ⟨v2_3, v3_2, v4_1⟩ o hf hkc8 hke8 H locs ls hP hS hl
      have hf := u3_e hf
      refine lv_iload hx hb dX4_fillRow_8 (lv_at hl 0 rfl) ?_
      refine lv_aload_n hx hb dX4_fillRow_10 rfl (lv_at hl 3 rfl) ?_
      refine gX4_5 hx hb hts hown hk hP wd_1_127 dX4_fillRow_11 ?_
      refine gnX5_5 hx hb hts hown hk hP isR_9 (nest_2 hk.2.1) dX4_fillRow_14 ?_
      refine lv_icmp_ge (tgt := 90) hx hb dX4_fillRow_17 (by decide) (fun c_6 => ?_) (fun c_6 => ?_)
      · have hf := i_t c_6 hf
        exact hke8 _ (Option.some.inj hf).symm _ _ rfl H locs ls hP hS (lv_sub hl [1, 2, 3, 4] rfl)
      · have hf := i_f c_6 hf
        refine lv_iload_n hx hb dX4_fillRow_20 rfl (lv_at hl 4 rfl) ?_
        refine lv_iconst (v := (1 : Int32)) hx hb dX4_fillRow_21 (by decide) ?_
        refine lv_iload hx hb dX4_fillRow_22 (lv_at hl 0 rfl) ?_
        refine rw_ishl hx hb dX4_fillRow_24 ?_
        refine lv_iconst (v := (-1 : Int32)) hx hb dX4_fillRow_25 (by decide) ?_
        refine lv_ixor hx hb dX4_fillRow_26 ?_
        refine lv_iand hx hb dX4_fillRow_27 ?_
        refine lv_topi (fun v5_7 e_v5_7 => ?_)
        have hf := b_v hf e_v5_7
        refine lv_istore (lv' := [(5, .int v5_7), (4, .int v4_1), (3, .int v3_2), (2, .int v2_3), (0, .ref (X.ad 14)), (1, .int x1)]) hx hb dX4_fillRow_28 hl (by decide) rfl (fun ls hl => ?_)
        refine lv_iload hx hb dX4_fillRow_30 (lv_at hl 0 rfl) ?_
        refine lv_iload_n hx hb dX4_fillRow_32 rfl (lv_at hl 5 rfl) ?_
        refine lv_icmp_eq (tgt := 84) hx hb dX4_fillRow_33 (by decide) (fun c_8 => ?_) (fun c_8 => ?_)
        · have hf := i_t c_8 hf
          refine lv_iinc (v := v4_1 + (1 : Int32)) (lv' := [(4, .int (v4_1 + (1 : Int32))), (5, .int v5_7), (3, .int v3_2), (2, .int v2_3), (0, .ref (X.ad 14)), (1, .int x1)]) hx hb dX4_fillRow_84 hl (k := 1) rfl rfl (by decide) rfl (fun ls hl => ?_)
          refine lv_goto (tgt := 8) hx hb dX4_fillRow_87 (by decide) ?_
          exact hkc8 _ (Option.some.inj hf).symm H locs ls hP hS (lv_sub hl [0, 2, 3, 4, 5] rfl)
        · have hf := i_f c_8 hf
          refine lv_aload_n hx hb dX4_fillRow_36 rfl (lv_at hl 4 rfl) ?_
          refine gX4_0 hx hb hts hown hk hP wd_1_117 dX4_fillRow_37 ?_
          refine lv_iload hx hb dX4_fillRow_40 (lv_at hl 0 rfl) ?_
          obtain ⟨q_9, hf⟩ := g_if hf
          refine ald hx hb hk hP (by decide) rfl q_9 dX4_fillRow_42 ?_
          refine lv_if_le (tgt := 84) hx hb dX4_fillRow_43 (by decide) (fun c_10 => ?_) (fun c_10 => ?_)
          · have hf := i_t c_10 hf
            refine lv_iinc (v := v4_1 + (1 : Int32)) (lv' := [(4, .int (v4_1 + (1 : Int32))), (5, .int v5_7), (3, .int v3_2), (2, .int v2_3), (0, .ref (X.ad 14)), (1, .int x1)]) hx hb dX4_fillRow_84 hl (k := 1) rfl rfl (by decide) rfl (fun ls hl => ?_)
            refine lv_goto (tgt := 8) hx hb dX4_fillRow_87 (by decide) ?_
            exact hkc8 _ (Option.some.inj hf).symm H locs ls hP hS (lv_sub hl [0, 2, 3, 4, 5] rfl)
          · have hf := i_f c_10 hf
            refine lv_aload_n hx hb dX4_fillRow_46 rfl (lv_at hl 4 rfl) ?_
            refine gX4_5 hx hb hts hown hk hP wd_1_127 dX4_fillRow_47 ?_
            refine lv_iload hx hb dX4_fillRow_50 (lv_at hl 1 rfl) ?_
            refine lv_iload hx hb dX4_fillRow_52 (lv_at hl 0 rfl) ?_
            obtain ⟨r_11, h_r_11, hf⟩ := b_d hf
            refine k_X5_firstWay hZ hP hS hl.1 wd_3_38 ⟨Nat.le_of_ble_eq_true rfl, Nat.le_of_ble_eq_true rfl⟩ (Nat.le_of_ble_eq_true rfl) dX4_fillRow_54 ⟨Nat.zero_le _, Nat.zero_le _⟩ isR_9 h_r_11 (fun H locs hP hS => ?_)
            refine lv_bipush (v := (-9 : Int32)) hx hb dX4_fillRow_57 (by decide) ?_
            refine lv_icmp_eq (tgt := 84) hx hb dX4_fillRow_59 (by decide) (fun c_12 => ?_) (fun c_12 => ?_)
            · have hf := i_t c_12 hf
              refine lv_iinc (v := v4_1 + (1 : Int32)) (lv' := [(4, .int (v4_1 + (1 : Int32))), (5, .int v5_7), (3, .int v3_2), (2, .int v2_3), (0, .ref (X.ad 14)), (1, .int x1)]) hx hb dX4_fillRow_84 hl (k := 1) rfl rfl (by decide) rfl (fun ls hl => ?_)
              refine lv_goto (tgt := 8) hx hb dX4_fillRow_87 (by decide) ?_
              exact hkc8 _ (Option.some.inj hf).symm H locs ls hP hS (lv_sub hl [0, 2, 3, 4, 5] rfl)
            · have hf := i_f c_12 hf
              refine lv_iload_n hx hb dX4_fillRow_62 rfl (lv_at hl 3 rfl) ?_
              refine lv_aload_n hx hb dX4_fillRow_63 rfl (lv_at hl 4 rfl) ?_
              refine gX4_0 hx hb hts hown hk hP wd_1_117 dX4_fillRow_64 ?_
              refine lv_iload hx hb dX4_fillRow_67 (lv_at hl 0 rfl) ?_
              obtain ⟨q_13, hf⟩ := g_if hf
              refine ald hx hb hk hP (by decide) rfl q_13 dX4_fillRow_69 ?_
              refine lv_iadd hx hb dX4_fillRow_70 ?_
              refine lv_topi (fun v2_14 e_v2_14 => ?_)
              have hf := b_v hf e_v2_14
              refine lv_istore_n (lv' := [(2, .int v2_14), (5, .int v5_7), (4, .int v4_1), (3, .int v3_2), (0, .ref (X.ad 14)), (1, .int x1)]) hx hb dX4_fillRow_71 rfl hl (by decide) rfl (fun ls hl => ?_)
              refine lv_iload_n hx hb dX4_fillRow_72 rfl (lv_at hl 3 rfl) ?_
              refine lv_aload_n hx hb dX4_fillRow_73 rfl (lv_at hl 4 rfl) ?_
              refine gX4_1 hx hb hts hown hk hP wd_1_119 dX4_fillRow_74 ?_
              refine lv_iload hx hb dX4_fillRow_77 (lv_at hl 1 rfl) ?_
              obtain ⟨q_15, hf⟩ := g_if hf
              refine ald hx hb hk hP (by decide) rfl q_15 dX4_fillRow_79 ?_
              refine rw_min hx hb (hml.trans hl.1.symm) hts hown wd_3_43 wd_2_124 wd_1_11 wd_2_125 (Nat.le_of_ble_eq_true rfl) (Nat.le_of_ble_eq_true rfl) (Nat.zero_le _) (Nat.zero_le _) dX4_fillRow_80 ?_
              refine lv_topi (fun v3_16 e_v3_16 => ?_)
              have hf := b_v hf e_v3_16
              refine lv_istore_n (lv' := [(3, .int v3_16), (2, .int v2_14), (5, .int v5_7), (4, .int v4_1), (0, .ref (X.ad 14)), (1, .int x1)]) hx hb dX4_fillRow_83 rfl hl (by decide) rfl (fun ls hl => ?_)
              refine lv_iinc (v := v4_1 + (1 : Int32)) (lv' := [(4, .int (v4_1 + (1 : Int32))), (3, .int v3_16), (2, .int v2_14), (5, .int v5_7), (0, .ref (X.ad 14)), (1, .int x1)]) hx hb dX4_fillRow_84 hl (k := 3) rfl rfl (by decide) rfl (fun ls hl => ?_)
              refine lv_goto (tgt := 8) hx hb dX4_fillRow_87 (by decide) ?_
              exact hkc8 _ (Option.some.inj hf).symm H locs ls hP hS (lv_sub hl [0, 1, 2, 4, 5] rfl)
    · intro v2_5 v3_4 e H locs ls hP hS hl
      subst o8
      have hf := u2_e hf
      refine lv_aload_n hx hb dX4_fillRow_90 rfl (lv_at hl 2 rfl) ?_
      refine gX4_0 hx hb hts hown hk hP wd_1_117 dX4_fillRow_91 ?_
      refine lv_iload_n hx hb dX4_fillRow_94 rfl (lv_at hl 3 rfl) ?_
      refine lv_iload_n hx hb dX4_fillRow_95 rfl (lv_at hl 1 rfl) ?_
      obtain ⟨q_18, hf⟩ := g_if hf
      refine ast hx hb hk hP hS (by decide) (fun _ => rfl) q_18 dX4_fillRow_96 (fun H locs M_17 e_M_17 hP hS => ?_)
      have hf := b_v hf e_M_17
      refine lv_aload_n hx hb dX4_fillRow_97 rfl (lv_at hl 2 rfl) ?_
      refine gX4_6 hx hb hts hown hk hP wd_1_128 dX4_fillRow_98 ?_
      refine lv_iload_n hx hb dX4_fillRow_101 rfl (lv_at hl 3 rfl) ?_
      refine lv_aload_n hx hb dX4_fillRow_102 rfl (lv_at hl 2 rfl) ?_
      refine gX4_5 hx hb hts hown hk hP wd_1_127 dX4_fillRow_103 ?_
      refine lv_iload_n hx hb dX4_fillRow_106 rfl (lv_at hl 3 rfl) ?_
      obtain ⟨r_19, h_r_19, hf⟩ := b_d hf
      refine k_X5_propsOf hZ hP hS hl.1 wd_3_44 ⟨Nat.le_of_ble_eq_true rfl, Nat.le_of_ble_eq_true rfl⟩ (Nat.le_of_ble_eq_true rfl) dX4_fillRow_107 ⟨Nat.zero_le _, Nat.zero_le _⟩ isR_9 h_r_19 (fun H locs hP hS => ?_)
      obtain ⟨q_21, hf⟩ := g_if hf
      refine ast hx hb hk hP hS (by decide) (fun _ => rfl) q_21 dX4_fillRow_110 (fun H locs M_20 e_M_20 hP hS => ?_)
      have hf := b_v hf e_M_20
      refine lv_aload_n hx hb dX4_fillRow_111 rfl (lv_at hl 2 rfl) ?_
      refine gX4_1 hx hb hts hown hk hP wd_1_119 dX4_fillRow_112 ?_
      refine lv_iload_n hx hb dX4_fillRow_115 rfl (lv_at hl 3 rfl) ?_
      refine lv_iload_n hx hb dX4_fillRow_116 rfl (lv_at hl 1 rfl) ?_
      refine lv_if_ne (tgt := 125) hx hb dX4_fillRow_117 (by decide) (fun c_22 => ?_) (fun c_22 => ?_)
      · have hf := i_f c_22 hf
        refine lv_iload_n hx hb dX4_fillRow_125 rfl (lv_at hl 0 rfl) ?_
        refine lv_aload_n hx hb dX4_fillRow_126 rfl (lv_at hl 2 rfl) ?_
        refine gX4_6 hx hb hts hown hk hP wd_1_128 dX4_fillRow_127 ?_
        refine lv_iload_n hx hb dX4_fillRow_130 rfl (lv_at hl 3 rfl) ?_
        obtain ⟨q_23, hf⟩ := g_if hf
        refine ald hx hb hk hP (by decide) rfl q_23 dX4_fillRow_131 ?_
        refine rw_max hx hb (hml.trans hl.1.symm) hts hown wd_3_45 wd_2_127 wd_1_11 wd_2_128 (Nat.le_of_ble_eq_true rfl) (Nat.le_of_ble_eq_true rfl) (Nat.zero_le _) (Nat.zero_le _) dX4_fillRow_132 ?_
        exact jn135 (mx v3_4 (M_20 19 (ix x1))) x1 M_20 hf H locs ls hP hS (lv_sub hl [] rfl)
      · have hf := i_t c_22 hf
        refine lv_bipush (v := (-9 : Int32)) hx hb dX4_fillRow_120 (by decide) ?_
        refine lv_goto (tgt := 135) hx hb dX4_fillRow_122 (by decide) ?_
        exact jn135 (-9 : Int32) x1 M_20 hf H locs ls hP hS (lv_sub hl [] rfl)
  exact key s.heap [] hP hS
theorem hd_X4_fillRow : Hd yX4_fillRow 1 := by decide +kernel
theorem k_X4_fillRow {p : Program} {l : Launch} {e : Env} {R : Room} {s : State} {m : MethodId} {args : Array Value} {below : List Frame} {meth : Method} {c : Code} {H : Heap} {locs : List Loc} {cells slots : Nat} {Q : State → Prop} {cc : ByteArray} {nL pc index : Nat} {ls : Array Slot} {rest : List Value} {X : En} {M : Mem} {H0 : Heap} {own : String} {g : Nat} {x1 : Int32} {M9 : Mem} (hZ : Fx p c m s args X cc nL own) (hP : wd X M H) (hS : va_S X.A H0 H locs) (hsz : ls.size = nL) (hlk : Cond.methodLink own index yX4_fillRow ∈ lw_u) (hR : 2 + 1 ≤ R.frames ∧ 8 + (6 + 11) + 46 ≤ R.locals) (hW : (rest.map fun v => v.category).sum ≤ 8) (hdg : decode cc pc = .ok (.invokevirtual index, 3)) (hcs : cells ≤ R.cells ∧ slots ≤ R.slots) (hf : fn_X4_fillRow g x1 M = some M9)
    (kk : ∀ (H1 : Heap) (locs1 : List Loc), wd X M9 H1 → va_S X.A H0 H1 locs1 → W p l e R s m args below meth c H1 locs1 cells slots Q (F0 m (pc + 3) ls rest)) : W p l e R s m args below meth c H locs cells slots Q (F0 m pc ls (.int x1 :: .ref (X.ad 14) :: rest)) :=
  cal_v (runV (As := [.int x1]) (rest := rest) hZ.1 hZ.2.1 hZ.2.2.1 hZ.2.2.2.1 hZ.2.2.2.2.1 hZ.2.2.2.2.2 hP (c_X4_fillRow g x1 M M9 hf) wd_3_37 wd_3_36 wd_p_18 wd_1_5 hd_X4_fillRow (by decide) rfl rfl rfl hlk hR hsz rfl hW hdg hcs) hS kk
/-! FrameRaiser$Planner.fillTables -/
def bd_X4_fillTables_38 (g : Nat) (v1_5 : Int32) : (Int32 × Mem) → Option ((Int32 × Mem) ⊕ (Mem)) :=
  u2 fun v2_6 M_7 =>
  if v1_5 ≤ v2_6 then
    (some (.inr M_7))
  else
    (if (256 : Int32) ≤ v2_6 then
      (some (.inr M_7))
    else
      ((fn_X4_fillRow g v2_6 M_7).bind fun M_11 =>
      some (.inl (v2_6 + (1 : Int32), M_11))))
def fn_X4_fillTables (g : Nat) (M : Mem) : Option (Mem) :=
  bv (st M 14 8 (-1 : Int32)) fun M_1 =>
  bv (st M_1 15 (ix (0 : Int32)) (1 : Int32)) fun M_2 =>
  bv (st M_2 16 (ix (0 : Int32)) (0 : Int32)) fun M_3 =>
  bv (st M_3 19 (ix (0 : Int32)) (0 : Int32)) fun M_4 =>
  bv (sl (1 : Int32) (M_4 9 5)) fun v1_5 =>
  (lpN g (bd_X4_fillTables_38 g v1_5) ((1 : Int32), M_4)).bind (u1 fun M_8 =>
    some M_8)
theorem dX4_fillTables_0 : decode cX4_fillTables 0 = .ok (.aload_n 0, 1) := by decide +kernel
theorem dX4_fillTables_1 : decode cX4_fillTables 1 = .ok (.iconst (-1), 1) := by decide +kernel
theorem dX4_fillTables_2 : decode cX4_fillTables 2 = .ok (.putfield 31, 3) := by decide +kernel
theorem dX4_fillTables_5 : decode cX4_fillTables 5 = .ok (.aload_n 0, 1) := by decide +kernel
theorem dX4_fillTables_6 : decode cX4_fillTables 6 = .ok (.getfield 9, 3) := by decide +kernel
theorem dX4_fillTables_9 : decode cX4_fillTables 9 = .ok (.iconst 0, 1) := by decide +kernel
theorem dX4_fillTables_10 : decode cX4_fillTables 10 = .ok (.iconst 1, 1) := by decide +kernel
theorem dX4_fillTables_11 : decode cX4_fillTables 11 = .ok (.iastore, 1) := by decide +kernel
theorem dX4_fillTables_12 : decode cX4_fillTables 12 = .ok (.aload_n 0, 1) := by decide +kernel
theorem dX4_fillTables_13 : decode cX4_fillTables 13 = .ok (.getfield 15, 3) := by decide +kernel
theorem dX4_fillTables_16 : decode cX4_fillTables 16 = .ok (.iconst 0, 1) := by decide +kernel
theorem dX4_fillTables_17 : decode cX4_fillTables 17 = .ok (.iconst 0, 1) := by decide +kernel
theorem dX4_fillTables_18 : decode cX4_fillTables 18 = .ok (.iastore, 1) := by decide +kernel
theorem dX4_fillTables_19 : decode cX4_fillTables 19 = .ok (.aload_n 0, 1) := by decide +kernel
theorem dX4_fillTables_20 : decode cX4_fillTables 20 = .ok (.getfield 24, 3) := by decide +kernel
theorem dX4_fillTables_23 : decode cX4_fillTables 23 = .ok (.iconst 0, 1) := by decide +kernel
theorem dX4_fillTables_24 : decode cX4_fillTables 24 = .ok (.iconst 0, 1) := by decide +kernel
theorem dX4_fillTables_25 : decode cX4_fillTables 25 = .ok (.iastore, 1) := by decide +kernel
theorem dX4_fillTables_26 : decode cX4_fillTables 26 = .ok (.iconst 1, 1) := by decide +kernel
theorem dX4_fillTables_27 : decode cX4_fillTables 27 = .ok (.aload_n 0, 1) := by decide +kernel
theorem dX4_fillTables_28 : decode cX4_fillTables 28 = .ok (.getfield 35, 3) := by decide +kernel
theorem dX4_fillTables_31 : decode cX4_fillTables 31 = .ok (.getfield 39, 3) := by decide +kernel
theorem dX4_fillTables_34 : decode cX4_fillTables 34 = .ok (.ishl, 1) := by decide +kernel
theorem dX4_fillTables_35 : decode cX4_fillTables 35 = .ok (.istore_n 1, 1) := by decide +kernel
theorem dX4_fillTables_36 : decode cX4_fillTables 36 = .ok (.iconst 1, 1) := by decide +kernel
theorem dX4_fillTables_37 : decode cX4_fillTables 37 = .ok (.istore_n 2, 1) := by decide +kernel
theorem dX4_fillTables_38 : decode cX4_fillTables 38 = .ok (.iload_n 2, 1) := by decide +kernel
theorem dX4_fillTables_39 : decode cX4_fillTables 39 = .ok (.iload_n 1, 1) := by decide +kernel
theorem dX4_fillTables_40 : decode cX4_fillTables 40 = .ok (.if_icmp .ge 21, 3) := by decide +kernel
theorem dX4_fillTables_43 : decode cX4_fillTables 43 = .ok (.iload_n 2, 1) := by decide +kernel
theorem dX4_fillTables_44 : decode cX4_fillTables 44 = .ok (.sipush 256, 3) := by decide +kernel
theorem dX4_fillTables_47 : decode cX4_fillTables 47 = .ok (.if_icmp .ge 14, 3) := by decide +kernel
theorem dX4_fillTables_50 : decode cX4_fillTables 50 = .ok (.aload_n 0, 1) := by decide +kernel
theorem dX4_fillTables_51 : decode cX4_fillTables 51 = .ok (.iload_n 2, 1) := by decide +kernel
theorem dX4_fillTables_52 : decode cX4_fillTables 52 = .ok (.invokevirtual 44, 3) := by decide +kernel
theorem dX4_fillTables_55 : decode cX4_fillTables 55 = .ok (.iinc 2 1, 3) := by decide +kernel
theorem dX4_fillTables_58 : decode cX4_fillTables 58 = .ok (.goto (-20), 3) := by decide +kernel
theorem dX4_fillTables_61 : decode cX4_fillTables 61 = .ok (.return_, 1) := by decide +kernel
set_option maxHeartbeats 4000000 in
set_option maxRecDepth 100000 in
theorem c_X4_fillTables {l : Launch} {X : En} (g : Nat) (M : Mem) (M9 : Mem) (hf : fn_X4_fillTables g M = some M9) : Cn l X yX4_fillTables cX4_fillTables 3 none 3 71 [.ref (X.ad 14)] M (Qv X M9) := by
  refine Met.ofW (cc := cX4_fillTables) (maxL := 3) (ret := none) (by decide) rfl ?_
  intro p e s m args below meth c s₁ B hml hv
  obtain ⟨rfl, hP, hk⟩ := hv
  have hx := B.exec
  have hb := B.bytes
  have hr := B.returns
  have hlocks := B.notSynchronized
  have hts : ∀ w ∈ lw_u, w.before ([.ref (X.ad 14)] : List Value).toArray s = true := fun w hw => atoms_spec (ws := Cond.code yX4_fillTables cX4_fillTables 3 none :: lw_u) B.pre w (List.mem_cons_of_mem _ hw)
  have hown : s.vm.findClass RX4 = some m.cls := findClass_of_methodNamed B.named
  have hZ : Fx p c m s ([.ref (X.ad 14)] : List Value).toArray X cX4_fillTables 3 RX4 := ⟨hx, hb, hml, hts, hown, hk⟩
  have hS : va_S X.A s.heap s.heap [] := va_S.rf
  have hl := lv_entry ([.ref (X.ad 14)]) (n := 3) (Nat.le_of_ble_eq_true rfl)
  rw [lg_entry_eq]
  generalize (lg_sl ([.ref (X.ad 14)]) ++ List.replicate (3 - (lg_sl ([.ref (X.ad 14)])).length) Slot.unset).toArray = ls at hl ⊢
  have hl : lv_has ls 3 [(0, .ref (X.ad 14))] := hl
  show WW p l e 3 71 s m [.ref (X.ad 14)] below meth c X (Qv X M9) s.heap [] 0 ls []
  have hP : wd X M s.heap := hP
  unfold fn_X4_fillTables at hf
  have key : ∀ (H : Heap) (locs : List Loc), wd X M H → va_S X.A s.heap H locs → WW p l e 3 71 s m [.ref (X.ad 14)] below meth c X (Qv X M9) H locs 0 ls [] := by
    intro H locs hP hS
    refine lv_aload_n hx hb dX4_fillTables_0 rfl (lv_at hl 0 rfl) ?_
    refine lv_iconst (v := (-1 : Int32)) hx hb dX4_fillTables_1 (by decide) ?_
    refine pX4_8 hx hb hts hown hk hP hS wd_1_130 dX4_fillTables_2 (fun H locs M_1 e_M_1 hP hS => ?_)
    have hf := b_v hf e_M_1
    refine lv_aload_n hx hb dX4_fillTables_5 rfl (lv_at hl 0 rfl) ?_
    refine gX4_0 hx hb hts hown hk hP wd_1_117 dX4_fillTables_6 ?_
    refine lv_iconst (v := (0 : Int32)) hx hb dX4_fillTables_9 (by decide) ?_
    refine lv_iconst (v := (1 : Int32)) hx hb dX4_fillTables_10 (by decide) ?_
    refine ast hx hb hk hP hS (by decide) (fun _ => rfl) (show inb _ _ from by decide) dX4_fillTables_11 (fun H locs M_2 e_M_2 hP hS => ?_)
    have hf := b_v hf e_M_2
    refine lv_aload_n hx hb dX4_fillTables_12 rfl (lv_at hl 0 rfl) ?_
    refine gX4_1 hx hb hts hown hk hP wd_1_119 dX4_fillTables_13 ?_
    refine lv_iconst (v := (0 : Int32)) hx hb dX4_fillTables_16 (by decide) ?_
    refine lv_iconst (v := (0 : Int32)) hx hb dX4_fillTables_17 (by decide) ?_
    refine ast hx hb hk hP hS (by decide) (fun _ => rfl) (show inb _ _ from by decide) dX4_fillTables_18 (fun H locs M_3 e_M_3 hP hS => ?_)
    have hf := b_v hf e_M_3
    refine lv_aload_n hx hb dX4_fillTables_19 rfl (lv_at hl 0 rfl) ?_
    refine gX4_6 hx hb hts hown hk hP wd_1_128 dX4_fillTables_20 ?_
    refine lv_iconst (v := (0 : Int32)) hx hb dX4_fillTables_23 (by decide) ?_
    refine lv_iconst (v := (0 : Int32)) hx hb dX4_fillTables_24 (by decide) ?_
    refine ast hx hb hk hP hS (by decide) (fun _ => rfl) (show inb _ _ from by decide) dX4_fillTables_25 (fun H locs M_4 e_M_4 hP hS => ?_)
    have hf := b_v hf e_M_4
    refine lv_iconst (v := (1 : Int32)) hx hb dX4_fillTables_26 (by decide) ?_
    refine lv_aload_n hx hb dX4_fillTables_27 rfl (lv_at hl 0 rfl) ?_
    refine gX4_5 hx hb hts hown hk hP wd_1_127 dX4_fillTables_28 ?_
    refine gnX5_5 hx hb hts hown hk hP isR_9 (nest_2 hk.2.1) dX4_fillTables_31 ?_
    refine rw_ishl hx hb dX4_fillTables_34 ?_
    refine lv_topi (fun v1_5 e_v1_5 => ?_)
    have hf := b_v hf e_v1_5
    refine lv_istore_n (lv' := [(1, .int v1_5), (0, .ref (X.ad 14))]) hx hb dX4_fillTables_35 rfl hl (by decide) rfl (fun ls hl => ?_)
    refine lv_iconst (v := (1 : Int32)) hx hb dX4_fillTables_36 (by decide) ?_
    refine lv_istore_n (lv' := [(2, .int (1 : Int32)), (1, .int v1_5), (0, .ref (X.ad 14))]) hx hb dX4_fillTables_37 rfl hl (by decide) rfl (fun ls hl => ?_)
    obtain ⟨o38, ho38, hf⟩ := b_d hf
    refine lp_rule (b := bd_X4_fillTables_38 g v1_5) (P := fun w : Int32 × Mem => ∀ (H : Heap) (locs : List Loc) (ls : Array Slot), wd X w.2 H → va_S X.A s.heap H locs → lv_has ls 3 [(2, .int w.1), (1, .int v1_5), (0, .ref (X.ad 14))] → WW p l e 3 71 s m [.ref (X.ad 14)] below meth c X (Qv X M9) H locs 38 ls []) (K := fun o => ∀ (M_8 : Mem), o = M_8 → ∀ (H : Heap) (locs : List Loc) (ls : Array Slot), wd X M_8 H → va_S X.A s.heap H locs → lv_has ls 3 [] → WW p l e 3 71 s m [.ref (X.ad 14)] below meth c X (Qv X M9) H locs 61 ls []) ?_ g ((1 : Int32), M_4) o38 ho38 ?_ H locs ls hP hS (lv_sub hl [0, 1, 2] rfl)
    · rintro ⟨v2_6, M_7⟩ o hf hkc38 hke38 H locs ls hP hS hl
      have hf := u2_e hf
      refine lv_iload_n hx hb dX4_fillTables_38 rfl (lv_at hl 0 rfl) ?_
      refine lv_iload_n hx hb dX4_fillTables_39 rfl (lv_at hl 1 rfl) ?_
      refine lv_icmp_ge (tgt := 61) hx hb dX4_fillTables_40 (by decide) (fun c_9 => ?_) (fun c_9 => ?_)
      · have hf := i_t c_9 hf
        exact hke38 _ (Option.some.inj hf).symm _ rfl H locs ls hP hS (lv_sub hl [] rfl)
      · have hf := i_f c_9 hf
        refine lv_iload_n hx hb dX4_fillTables_43 rfl (lv_at hl 0 rfl) ?_
        refine lv_sipush (v := (256 : Int32)) hx hb dX4_fillTables_44 (by decide) ?_
        refine lv_icmp_ge (tgt := 61) hx hb dX4_fillTables_47 (by decide) (fun c_10 => ?_) (fun c_10 => ?_)
        · have hf := i_t c_10 hf
          exact hke38 _ (Option.some.inj hf).symm _ rfl H locs ls hP hS (lv_sub hl [] rfl)
        · have hf := i_f c_10 hf
          refine lv_aload_n hx hb dX4_fillTables_50 rfl (lv_at hl 2 rfl) ?_
          refine lv_iload_n hx hb dX4_fillTables_51 rfl (lv_at hl 0 rfl) ?_
          obtain ⟨M_11, h_M_11, hf⟩ := b_d hf
          refine k_X4_fillRow hZ hP hS hl.1 wd_3_34 ⟨Nat.le_of_ble_eq_true rfl, Nat.le_of_ble_eq_true rfl⟩ (Nat.le_of_ble_eq_true rfl) dX4_fillTables_52 ⟨Nat.zero_le _, Nat.zero_le _⟩ h_M_11 (fun H locs hP hS => ?_)
          refine lv_iinc (v := v2_6 + (1 : Int32)) (lv' := [(2, .int (v2_6 + (1 : Int32))), (1, .int v1_5), (0, .ref (X.ad 14))]) hx hb dX4_fillTables_55 hl (k := 0) rfl rfl (by decide) rfl (fun ls hl => ?_)
          refine lv_goto (tgt := 38) hx hb dX4_fillTables_58 (by decide) ?_
          exact hkc38 _ (Option.some.inj hf).symm H locs ls hP hS (lv_sub hl [0, 1, 2] rfl)
    · intro M_8 e H locs ls hP hS hl
      subst o38
      have hf := u1_e hf
      have hf := Option.some.inj hf
      rw [hf] at hP
      exact ret_v hx hb hr hlocks hP hS dX4_fillTables_61
  exact key s.heap [] hP hS
theorem hd_X4_fillTables : Hd yX4_fillTables 0 := by decide +kernel
theorem k_X4_fillTables {p : Program} {l : Launch} {e : Env} {R : Room} {s : State} {m : MethodId} {args : Array Value} {below : List Frame} {meth : Method} {c : Code} {H : Heap} {locs : List Loc} {cells slots : Nat} {Q : State → Prop} {cc : ByteArray} {nL pc index : Nat} {ls : Array Slot} {rest : List Value} {X : En} {M : Mem} {H0 : Heap} {own : String} {g : Nat} {M9 : Mem} (hZ : Fx p c m s args X cc nL own) (hP : wd X M H) (hS : va_S X.A H0 H locs) (hsz : ls.size = nL) (hlk : Cond.methodLink own index yX4_fillTables ∈ lw_u) (hR : 3 + 1 ≤ R.frames ∧ 8 + (3 + 11) + 71 ≤ R.locals) (hW : (rest.map fun v => v.category).sum ≤ 8) (hdg : decode cc pc = .ok (.invokevirtual index, 3)) (hcs : cells ≤ R.cells ∧ slots ≤ R.slots) (hf : fn_X4_fillTables g M = some M9)
    (kk : ∀ (H1 : Heap) (locs1 : List Loc), wd X M9 H1 → va_S X.A H0 H1 locs1 → W p l e R s m args below meth c H1 locs1 cells slots Q (F0 m (pc + 3) ls rest)) : W p l e R s m args below meth c H locs cells slots Q (F0 m pc ls (.ref (X.ad 14) :: rest)) :=
  cal_v (runV (As := []) (rest := rest) hZ.1 hZ.2.1 hZ.2.2.1 hZ.2.2.2.1 hZ.2.2.2.2.1 hZ.2.2.2.2.2 hP (c_X4_fillTables g M M9 hf) wd_3_33 wd_3_31 wd_3_32 wd_1_5 hd_X4_fillTables (by decide) rfl rfl rfl hlk hR hsz rfl hW hdg hcs) hS kk
/-! FrameRaiser.knownPlanner -/
def jn_X7_knownPlanner_24 (M_2 : Mem) : Option (Mem) :=
  some M_2
def fn_X7_knownPlanner (g : Nat) (M : Mem) : Option (Mem) :=
  if (M 0 11) = 0 then
    ((fn_X7_knownRelations g M).bind fun M_3 =>
    (fn_X4_fillTables g M_3).bind fun M_4 =>
    bv (st M_4 0 11 (1 : Int32)) fun M_5 =>
    jn_X7_knownPlanner_24 M_5)
  else
    (jn_X7_knownPlanner_24 M)
theorem dX7_knownPlanner_0 : decode cX7_knownPlanner 0 = .ok (.aload_n 0, 1) := by decide +kernel
theorem dX7_knownPlanner_1 : decode cX7_knownPlanner 1 = .ok (.getfield 304, 3) := by decide +kernel
theorem dX7_knownPlanner_4 : decode cX7_knownPlanner 4 = .ok (.ifCond .ne 20, 3) := by decide +kernel
theorem dX7_knownPlanner_7 : decode cX7_knownPlanner 7 = .ok (.aload_n 0, 1) := by decide +kernel
theorem dX7_knownPlanner_8 : decode cX7_knownPlanner 8 = .ok (.invokevirtual 160, 3) := by decide +kernel
theorem dX7_knownPlanner_11 : decode cX7_knownPlanner 11 = .ok (.pop, 1) := by decide +kernel
theorem dX7_knownPlanner_12 : decode cX7_knownPlanner 12 = .ok (.aload_n 0, 1) := by decide +kernel
theorem dX7_knownPlanner_13 : decode cX7_knownPlanner 13 = .ok (.getfield 35, 3) := by decide +kernel
theorem dX7_knownPlanner_16 : decode cX7_knownPlanner 16 = .ok (.invokevirtual 308, 3) := by decide +kernel
theorem dX7_knownPlanner_19 : decode cX7_knownPlanner 19 = .ok (.aload_n 0, 1) := by decide +kernel
theorem dX7_knownPlanner_20 : decode cX7_knownPlanner 20 = .ok (.iconst 1, 1) := by decide +kernel
theorem dX7_knownPlanner_21 : decode cX7_knownPlanner 21 = .ok (.putfield 304, 3) := by decide +kernel
theorem dX7_knownPlanner_24 : decode cX7_knownPlanner 24 = .ok (.aload_n 0, 1) := by decide +kernel
theorem dX7_knownPlanner_25 : decode cX7_knownPlanner 25 = .ok (.getfield 35, 3) := by decide +kernel
theorem dX7_knownPlanner_28 : decode cX7_knownPlanner 28 = .ok (.areturn, 1) := by decide +kernel
set_option maxHeartbeats 4000000 in
set_option maxRecDepth 100000 in
theorem c_X7_knownPlanner {l : Launch} {X : En} (g : Nat) (M : Mem) (M9 : Mem) (hf : fn_X7_knownPlanner g M = some M9) : Cn l X yX7_knownPlanner cX7_knownPlanner 1 (some (.object "FrameRaiser$Planner")) 4 96 [.ref (X.ad 0)] M (Qr X 14 M9) := by
  refine Met.ofW (cc := cX7_knownPlanner) (maxL := 1) (ret := (some (.object "FrameRaiser$Planner"))) (by decide) rfl ?_
  intro p e s m args below meth c s₁ B hml hv
  obtain ⟨rfl, hP, hk⟩ := hv
  have hx := B.exec
  have hb := B.bytes
  have hr := B.returns
  have hlocks := B.notSynchronized
  have hts : ∀ w ∈ lw_u, w.before ([.ref (X.ad 0)] : List Value).toArray s = true := fun w hw => atoms_spec (ws := Cond.code yX7_knownPlanner cX7_knownPlanner 1 (some (.object "FrameRaiser$Planner")) :: lw_u) B.pre w (List.mem_cons_of_mem _ hw)
  have hown : s.vm.findClass RX7 = some m.cls := findClass_of_methodNamed B.named
  have hZ : Fx p c m s ([.ref (X.ad 0)] : List Value).toArray X cX7_knownPlanner 1 RX7 := ⟨hx, hb, hml, hts, hown, hk⟩
  have hS : va_S X.A s.heap s.heap [] := va_S.rf
  have hl := lv_entry ([.ref (X.ad 0)]) (n := 1) (Nat.le_of_ble_eq_true rfl)
  rw [lg_entry_eq]
  generalize (lg_sl ([.ref (X.ad 0)]) ++ List.replicate (1 - (lg_sl ([.ref (X.ad 0)])).length) Slot.unset).toArray = ls at hl ⊢
  have hl : lv_has ls 1 [(0, .ref (X.ad 0))] := hl
  show WW p l e 4 96 s m [.ref (X.ad 0)] below meth c X (Qr X 14 M9) s.heap [] 0 ls []
  have hP : wd X M s.heap := hP
  have jn24 : ∀  (M_2 : Mem), jn_X7_knownPlanner_24 M_2 = some M9 → ∀ (H : Heap) (locs : List Loc) (ls : Array Slot), wd X M_2 H → va_S X.A s.heap H locs → lv_has ls 1 [(0, .ref (X.ad 0))] → WW p l e 4 96 s m [.ref (X.ad 0)] below meth c X (Qr X 14 M9) H locs 24 ls [] := by
    intro  M_2 hf H locs ls hP hS hl
    unfold jn_X7_knownPlanner_24 at hf
    refine lv_aload_n hx hb dX7_knownPlanner_24 rfl (lv_at hl 0 rfl) ?_
    refine gX7_3 hx hb hts hown hk hP wd_1_216 dX7_knownPlanner_25 ?_
    have hf := Option.some.inj hf
    rw [hf] at hP
    exact ret_r hx hb hr hlocks hP hS dX7_knownPlanner_28
  unfold fn_X7_knownPlanner at hf
  have key : ∀ (H : Heap) (locs : List Loc), wd X M H → va_S X.A s.heap H locs → WW p l e 4 96 s m [.ref (X.ad 0)] below meth c X (Qr X 14 M9) H locs 0 ls [] := by
    intro H locs hP hS
    refine lv_aload_n hx hb dX7_knownPlanner_0 rfl (lv_at hl 0 rfl) ?_
    refine gX7_11 hx hb hts hown hk hP wd_1_224 dX7_knownPlanner_1 ?_
    refine lv_if_ne (tgt := 24) hx hb dX7_knownPlanner_4 (by decide) (fun c_1 => ?_) (fun c_1 => ?_)
    · have hf := i_f c_1 hf
      exact jn24 M hf H locs ls hP hS (lv_sub hl [0] rfl)
    · have hf := i_t c_1 hf
      refine lv_aload_n hx hb dX7_knownPlanner_7 rfl (lv_at hl 0 rfl) ?_
      obtain ⟨M_3, h_M_3, hf⟩ := b_d hf
      refine k_X7_knownRelations hZ hP hS hl.1 wd_2_185 ⟨Nat.le_of_ble_eq_true rfl, Nat.le_of_ble_eq_true rfl⟩ (Nat.le_of_ble_eq_true rfl) dX7_knownPlanner_8 ⟨Nat.zero_le _, Nat.zero_le _⟩ h_M_3 (fun H locs hP hS => ?_)
      refine lv_pop hx hb dX7_knownPlanner_11 rfl ?_
      refine lv_aload_n hx hb dX7_knownPlanner_12 rfl (lv_at hl 0 rfl) ?_
      refine gX7_3 hx hb hts hown hk hP wd_1_216 dX7_knownPlanner_13 ?_
      obtain ⟨M_4, h_M_4, hf⟩ := b_d hf
      refine k_X4_fillTables hZ hP hS hl.1 wd_3_30 ⟨Nat.le_of_ble_eq_true rfl, Nat.le_of_ble_eq_true rfl⟩ (Nat.le_of_ble_eq_true rfl) dX7_knownPlanner_16 ⟨Nat.zero_le _, Nat.zero_le _⟩ h_M_4 (fun H locs hP hS => ?_)
      refine lv_aload_n hx hb dX7_knownPlanner_19 rfl (lv_at hl 0 rfl) ?_
      refine lv_iconst (v := (1 : Int32)) hx hb dX7_knownPlanner_20 (by decide) ?_
      refine pX7_11 hx hb hts hown hk hP hS isZ_1 wd_1_224 dX7_knownPlanner_21 (fun H locs M_5 e_M_5 hP hS => ?_)
      have hf := b_v hf e_M_5
      exact jn24 M_5 hf H locs ls hP hS (lv_sub hl [0] rfl)
  exact key s.heap [] hP hS
theorem hd_X7_knownPlanner : Hd yX7_knownPlanner 0 := by decide +kernel
theorem k_X7_knownPlanner {p : Program} {l : Launch} {e : Env} {R : Room} {s : State} {m : MethodId} {args : Array Value} {below : List Frame} {meth : Method} {c : Code} {H : Heap} {locs : List Loc} {cells slots : Nat} {Q : State → Prop} {cc : ByteArray} {nL pc index : Nat} {ls : Array Slot} {rest : List Value} {X : En} {M : Mem} {H0 : Heap} {own : String} {g : Nat} {M9 : Mem} (hZ : Fx p c m s args X cc nL own) (hP : wd X M H) (hS : va_S X.A H0 H locs) (hsz : ls.size = nL) (hlk : Cond.methodLink own index yX7_knownPlanner ∈ lw_u) (hR : 4 + 1 ≤ R.frames ∧ 8 + (1 + 11) + 96 ≤ R.locals) (hW : (rest.map fun v => v.category).sum ≤ 8) (hdg : decode cc pc = .ok (.invokevirtual index, 3)) (hcs : cells ≤ R.cells ∧ slots ≤ R.slots) (hf : fn_X7_knownPlanner g M = some M9)
    (kk : ∀ (H1 : Heap) (locs1 : List Loc), wd X M9 H1 → va_S X.A H0 H1 locs1 → W p l e R s m args below meth c H1 locs1 cells slots Q (F0 m (pc + 3) ls (.ref (X.ad 14) :: rest))) : W p l e R s m args below meth c H locs cells slots Q (F0 m pc ls (.ref (X.ad 0) :: rest)) :=
  cal_r (runV (As := []) (rest := rest) hZ.1 hZ.2.1 hZ.2.2.1 hZ.2.2.2.1 hZ.2.2.2.2.1 hZ.2.2.2.2.2 hP (c_X7_knownPlanner g M M9 hf) wd_3_29 wd_3_28 wd_p_17 wd_1_1 hd_X7_knownPlanner (by decide) rfl rfl rfl hlk hR hsz rfl hW hdg hcs) hS kk
/-! FrameRaiser.orders -/
def fn_X7_orders (g : Nat) (x1 : Int32) (M : Mem) : Option (Int32 × Mem) :=
  if (fn_X7_isSet x1 M) = 0 then
    (some ((-1 : Int32), M))
  else
    ((fn_X7_knownPlanner g M).bind fun M_2 =>
    if inb x1 256 then
    some (M_2 15 (ix x1), M_2)
    else none)
theorem dX7_orders_0 : decode cX7_orders 0 = .ok (.aload_n 0, 1) := by decide +kernel
theorem dX7_orders_1 : decode cX7_orders 1 = .ok (.iload_n 1, 1) := by decide +kernel
theorem dX7_orders_2 : decode cX7_orders 2 = .ok (.invokevirtual 167, 3) := by decide +kernel
theorem dX7_orders_5 : decode cX7_orders 5 = .ok (.ifCond .ne 5, 3) := by decide +kernel
theorem dX7_orders_8 : decode cX7_orders 8 = .ok (.iconst (-1), 1) := by decide +kernel
theorem dX7_orders_9 : decode cX7_orders 9 = .ok (.ireturn, 1) := by decide +kernel
theorem dX7_orders_10 : decode cX7_orders 10 = .ok (.aload_n 0, 1) := by decide +kernel
theorem dX7_orders_11 : decode cX7_orders 11 = .ok (.invokevirtual 187, 3) := by decide +kernel
theorem dX7_orders_14 : decode cX7_orders 14 = .ok (.getfield 191, 3) := by decide +kernel
theorem dX7_orders_17 : decode cX7_orders 17 = .ok (.iload_n 1, 1) := by decide +kernel
theorem dX7_orders_18 : decode cX7_orders 18 = .ok (.iaload, 1) := by decide +kernel
theorem dX7_orders_19 : decode cX7_orders 19 = .ok (.ireturn, 1) := by decide +kernel
set_option maxHeartbeats 4000000 in
set_option maxRecDepth 100000 in
theorem c_X7_orders {l : Launch} {X : En} (g : Nat) (x1 : Int32) (M : Mem) (r : Int32) (M9 : Mem) (hf : fn_X7_orders g x1 M = some (r, M9)) : Cn l X yX7_orders cX7_orders 2 (some .int) 5 116 [.ref (X.ad 0), .int x1] M (Qi X r M9) := by
  refine Met.ofW (cc := cX7_orders) (maxL := 2) (ret := (some .int)) (by decide) rfl ?_
  intro p e s m args below meth c s₁ B hml hv
  obtain ⟨rfl, hP, hk⟩ := hv
  have hx := B.exec
  have hb := B.bytes
  have hr := B.returns
  have hlocks := B.notSynchronized
  have hts : ∀ w ∈ lw_u, w.before ([.ref (X.ad 0), .int x1] : List Value).toArray s = true := fun w hw => atoms_spec (ws := Cond.code yX7_orders cX7_orders 2 (some .int) :: lw_u) B.pre w (List.mem_cons_of_mem _ hw)
  have hown : s.vm.findClass RX7 = some m.cls := findClass_of_methodNamed B.named
  have hZ : Fx p c m s ([.ref (X.ad 0), .int x1] : List Value).toArray X cX7_orders 2 RX7 := ⟨hx, hb, hml, hts, hown, hk⟩
  have hS : va_S X.A s.heap s.heap [] := va_S.rf
  have hl := lv_entry ([.ref (X.ad 0), .int x1]) (n := 2) (Nat.le_of_ble_eq_true rfl)
  rw [lg_entry_eq]
  generalize (lg_sl ([.ref (X.ad 0), .int x1]) ++ List.replicate (2 - (lg_sl ([.ref (X.ad 0), .int x1])).length) Slot.unset).toArray = ls at hl ⊢
  have hl : lv_has ls 2 [(0, .ref (X.ad 0)), (1, .int x1)] := hl
  show WW p l e 5 116 s m [.ref (X.ad 0), .int x1] below meth c X (Qi X r M9) s.heap [] 0 ls []
  have hP : wd X M s.heap := hP
  unfold fn_X7_orders at hf
  have key : ∀ (H : Heap) (locs : List Loc), wd X M H → va_S X.A s.heap H locs → WW p l e 5 116 s m [.ref (X.ad 0), .int x1] below meth c X (Qi X r M9) H locs 0 ls [] := by
    intro H locs hP hS
    refine lv_aload_n hx hb dX7_orders_0 rfl (lv_at hl 0 rfl) ?_
    refine lv_iload_n hx hb dX7_orders_1 rfl (lv_at hl 1 rfl) ?_
    refine k_X7_isSet hZ hP hS hl.1 wd_2_221 ⟨Nat.le_of_ble_eq_true rfl, Nat.le_of_ble_eq_true rfl⟩ (Nat.le_of_ble_eq_true rfl) dX7_orders_2 ⟨Nat.zero_le _, Nat.zero_le _⟩ (fun H locs hP hS => ?_)
    refine lv_if_ne (tgt := 10) hx hb dX7_orders_5 (by decide) (fun c_1 => ?_) (fun c_1 => ?_)
    · have hf := i_f c_1 hf
      refine lv_aload_n hx hb dX7_orders_10 rfl (lv_at hl 0 rfl) ?_
      obtain ⟨M_2, h_M_2, hf⟩ := b_d hf
      refine k_X7_knownPlanner hZ hP hS hl.1 wd_3_26 ⟨Nat.le_of_ble_eq_true rfl, Nat.le_of_ble_eq_true rfl⟩ (Nat.le_of_ble_eq_true rfl) dX7_orders_11 ⟨Nat.zero_le _, Nat.zero_le _⟩ h_M_2 (fun H locs hP hS => ?_)
      refine gX4_0 hx hb hts hown hk hP wd_1_118 dX7_orders_14 ?_
      refine lv_iload_n hx hb dX7_orders_17 rfl (lv_at hl 1 rfl) ?_
      obtain ⟨q_3, hf⟩ := g_if hf
      refine ald hx hb hk hP (by decide) rfl q_3 dX7_orders_18 ?_
      have hf := Option.some.inj hf
      obtain ⟨e1, e2⟩ := Prod.mk.inj hf
      rw [e2] at hP
      exact ret_i hx hb hr hlocks hP hS e1 dX7_orders_19
    · have hf := i_t c_1 hf
      refine lv_iconst (v := (-1 : Int32)) hx hb dX7_orders_8 (by decide) ?_
      have hf := Option.some.inj hf
      obtain ⟨e1, e2⟩ := Prod.mk.inj hf
      rw [e2] at hP
      exact ret_i hx hb hr hlocks hP hS e1 dX7_orders_9
  exact key s.heap [] hP hS
theorem hd_X7_orders : Hd yX7_orders 1 := by decide +kernel
theorem k_X7_orders {p : Program} {l : Launch} {e : Env} {R : Room} {s : State} {m : MethodId} {args : Array Value} {below : List Frame} {meth : Method} {c : Code} {H : Heap} {locs : List Loc} {cells slots : Nat} {Q : State → Prop} {cc : ByteArray} {nL pc index : Nat} {ls : Array Slot} {rest : List Value} {X : En} {M : Mem} {H0 : Heap} {own : String} {g : Nat} {x1 : Int32} {r : Int32} {M9 : Mem} (hZ : Fx p c m s args X cc nL own) (hP : wd X M H) (hS : va_S X.A H0 H locs) (hsz : ls.size = nL) (hlk : Cond.methodLink own index yX7_orders ∈ lw_u) (hR : 5 + 1 ≤ R.frames ∧ 8 + (2 + 11) + 116 ≤ R.locals) (hW : (rest.map fun v => v.category).sum ≤ 8) (hdg : decode cc pc = .ok (.invokevirtual index, 3)) (hcs : cells ≤ R.cells ∧ slots ≤ R.slots) (hf : fn_X7_orders g x1 M = some (r, M9))
    (kk : ∀ (H1 : Heap) (locs1 : List Loc), wd X M9 H1 → va_S X.A H0 H1 locs1 → W p l e R s m args below meth c H1 locs1 cells slots Q (F0 m (pc + 3) ls (.int r :: rest))) : W p l e R s m args below meth c H locs cells slots Q (F0 m pc ls (.int x1 :: .ref (X.ad 0) :: rest)) :=
  cal_i (runV (As := [.int x1]) (rest := rest) hZ.1 hZ.2.1 hZ.2.2.1 hZ.2.2.2.1 hZ.2.2.2.2.1 hZ.2.2.2.2.2 hP (c_X7_orders g x1 M r M9 hf) wd_3_25 wd_3_23 wd_3_24 wd_1_1 hd_X7_orders (by decide) rfl rfl rfl hlk hR hsz rfl hW hdg hcs) hS kk
/-! FrameRaiser.fewestProps -/
def fn_X7_fewestProps (g : Nat) (x1 : Int32) (M : Mem) : Option (Int32 × Mem) :=
  if (fn_X7_isSet x1 M) = 0 then
    (some ((-1 : Int32), M))
  else
    ((fn_X7_knownPlanner g M).bind fun M_2 =>
    if inb x1 256 then
    some (M_2 16 (ix x1), M_2)
    else none)
theorem dX7_fewestProps_0 : decode cX7_fewestProps 0 = .ok (.aload_n 0, 1) := by decide +kernel
theorem dX7_fewestProps_1 : decode cX7_fewestProps 1 = .ok (.iload_n 1, 1) := by decide +kernel
theorem dX7_fewestProps_2 : decode cX7_fewestProps 2 = .ok (.invokevirtual 167, 3) := by decide +kernel
theorem dX7_fewestProps_5 : decode cX7_fewestProps 5 = .ok (.ifCond .ne 5, 3) := by decide +kernel
theorem dX7_fewestProps_8 : decode cX7_fewestProps 8 = .ok (.iconst (-1), 1) := by decide +kernel
theorem dX7_fewestProps_9 : decode cX7_fewestProps 9 = .ok (.ireturn, 1) := by decide +kernel
theorem dX7_fewestProps_10 : decode cX7_fewestProps 10 = .ok (.aload_n 0, 1) := by decide +kernel
theorem dX7_fewestProps_11 : decode cX7_fewestProps 11 = .ok (.invokevirtual 187, 3) := by decide +kernel
theorem dX7_fewestProps_14 : decode cX7_fewestProps 14 = .ok (.getfield 194, 3) := by decide +kernel
theorem dX7_fewestProps_17 : decode cX7_fewestProps 17 = .ok (.iload_n 1, 1) := by decide +kernel
theorem dX7_fewestProps_18 : decode cX7_fewestProps 18 = .ok (.iaload, 1) := by decide +kernel
theorem dX7_fewestProps_19 : decode cX7_fewestProps 19 = .ok (.ireturn, 1) := by decide +kernel
set_option maxHeartbeats 4000000 in
set_option maxRecDepth 100000 in
theorem c_X7_fewestProps {l : Launch} {X : En} (g : Nat) (x1 : Int32) (M : Mem) (r : Int32) (M9 : Mem) (hf : fn_X7_fewestProps g x1 M = some (r, M9)) : Cn l X yX7_fewestProps cX7_fewestProps 2 (some .int) 5 116 [.ref (X.ad 0), .int x1] M (Qi X r M9) := by
  refine Met.ofW (cc := cX7_fewestProps) (maxL := 2) (ret := (some .int)) (by decide) rfl ?_
  intro p e s m args below meth c s₁ B hml hv
  obtain ⟨rfl, hP, hk⟩ := hv
  have hx := B.exec
  have hb := B.bytes
  have hr := B.returns
  have hlocks := B.notSynchronized
  have hts : ∀ w ∈ lw_u, w.before ([.ref (X.ad 0), .int x1] : List Value).toArray s = true := fun w hw => atoms_spec (ws := Cond.code yX7_fewestProps cX7_fewestProps 2 (some .int) :: lw_u) B.pre w (List.mem_cons_of_mem _ hw)
  have hown : s.vm.findClass RX7 = some m.cls := findClass_of_methodNamed B.named
  have hZ : Fx p c m s ([.ref (X.ad 0), .int x1] : List Value).toArray X cX7_fewestProps 2 RX7 := ⟨hx, hb, hml, hts, hown, hk⟩
  have hS : va_S X.A s.heap s.heap [] := va_S.rf
  have hl := lv_entry ([.ref (X.ad 0), .int x1]) (n := 2) (Nat.le_of_ble_eq_true rfl)
  rw [lg_entry_eq]
  generalize (lg_sl ([.ref (X.ad 0), .int x1]) ++ List.replicate (2 - (lg_sl ([.ref (X.ad 0), .int x1])).length) Slot.unset).toArray = ls at hl ⊢
  have hl : lv_has ls 2 [(0, .ref (X.ad 0)), (1, .int x1)] := hl
  show WW p l e 5 116 s m [.ref (X.ad 0), .int x1] below meth c X (Qi X r M9) s.heap [] 0 ls []
  have hP : wd X M s.heap := hP
  unfold fn_X7_fewestProps at hf
  have key : ∀ (H : Heap) (locs : List Loc), wd X M H → va_S X.A s.heap H locs → WW p l e 5 116 s m [.ref (X.ad 0), .int x1] below meth c X (Qi X r M9) H locs 0 ls [] := by
    intro H locs hP hS
    refine lv_aload_n hx hb dX7_fewestProps_0 rfl (lv_at hl 0 rfl) ?_
    refine lv_iload_n hx hb dX7_fewestProps_1 rfl (lv_at hl 1 rfl) ?_
    refine k_X7_isSet hZ hP hS hl.1 wd_2_221 ⟨Nat.le_of_ble_eq_true rfl, Nat.le_of_ble_eq_true rfl⟩ (Nat.le_of_ble_eq_true rfl) dX7_fewestProps_2 ⟨Nat.zero_le _, Nat.zero_le _⟩ (fun H locs hP hS => ?_)
    refine lv_if_ne (tgt := 10) hx hb dX7_fewestProps_5 (by decide) (fun c_1 => ?_) (fun c_1 => ?_)
    · have hf := i_f c_1 hf
      refine lv_aload_n hx hb dX7_fewestProps_10 rfl (lv_at hl 0 rfl) ?_
      obtain ⟨M_2, h_M_2, hf⟩ := b_d hf
      refine k_X7_knownPlanner hZ hP hS hl.1 wd_3_26 ⟨Nat.le_of_ble_eq_true rfl, Nat.le_of_ble_eq_true rfl⟩ (Nat.le_of_ble_eq_true rfl) dX7_fewestProps_11 ⟨Nat.zero_le _, Nat.zero_le _⟩ h_M_2 (fun H locs hP hS => ?_)
      refine gX4_1 hx hb hts hown hk hP wd_1_120 dX7_fewestProps_14 ?_
      refine lv_iload_n hx hb dX7_fewestProps_17 rfl (lv_at hl 1 rfl) ?_
      obtain ⟨q_3, hf⟩ := g_if hf
      refine ald hx hb hk hP (by decide) rfl q_3 dX7_fewestProps_18 ?_
      have hf := Option.some.inj hf
      obtain ⟨e1, e2⟩ := Prod.mk.inj hf
      rw [e2] at hP
      exact ret_i hx hb hr hlocks hP hS e1 dX7_fewestProps_19
    · have hf := i_t c_1 hf
      refine lv_iconst (v := (-1 : Int32)) hx hb dX7_fewestProps_8 (by decide) ?_
      have hf := Option.some.inj hf
      obtain ⟨e1, e2⟩ := Prod.mk.inj hf
      rw [e2] at hP
      exact ret_i hx hb hr hlocks hP hS e1 dX7_fewestProps_9
  exact key s.heap [] hP hS
theorem hd_X7_fewestProps : Hd yX7_fewestProps 1 := by decide +kernel
theorem k_X7_fewestProps {p : Program} {l : Launch} {e : Env} {R : Room} {s : State} {m : MethodId} {args : Array Value} {below : List Frame} {meth : Method} {c : Code} {H : Heap} {locs : List Loc} {cells slots : Nat} {Q : State → Prop} {cc : ByteArray} {nL pc index : Nat} {ls : Array Slot} {rest : List Value} {X : En} {M : Mem} {H0 : Heap} {own : String} {g : Nat} {x1 : Int32} {r : Int32} {M9 : Mem} (hZ : Fx p c m s args X cc nL own) (hP : wd X M H) (hS : va_S X.A H0 H locs) (hsz : ls.size = nL) (hlk : Cond.methodLink own index yX7_fewestProps ∈ lw_u) (hR : 5 + 1 ≤ R.frames ∧ 8 + (2 + 11) + 116 ≤ R.locals) (hW : (rest.map fun v => v.category).sum ≤ 8) (hdg : decode cc pc = .ok (.invokevirtual index, 3)) (hcs : cells ≤ R.cells ∧ slots ≤ R.slots) (hf : fn_X7_fewestProps g x1 M = some (r, M9))
    (kk : ∀ (H1 : Heap) (locs1 : List Loc), wd X M9 H1 → va_S X.A H0 H1 locs1 → W p l e R s m args below meth c H1 locs1 cells slots Q (F0 m (pc + 3) ls (.int r :: rest))) : W p l e R s m args below meth c H locs cells slots Q (F0 m pc ls (.int x1 :: .ref (X.ad 0) :: rest)) :=
  cal_i (runV (As := [.int x1]) (rest := rest) hZ.1 hZ.2.1 hZ.2.2.1 hZ.2.2.2.1 hZ.2.2.2.2.1 hZ.2.2.2.2.2 hP (c_X7_fewestProps g x1 M r M9 hf) wd_3_49 wd_3_47 wd_3_48 wd_1_1 hd_X7_fewestProps (by decide) rfl rfl rfl hlk hR hsz rfl hW hdg hcs) hS kk
/-! FrameRaiser$Planner.nextPlanned -/
def jn_X4_nextPlanned_43 (g : Nat) (s_6 : Int32) (v3_5 : Int32) (x2 : Int32) (M : Mem) : Option ((Int32) ⊕ ((Unit) ⊕ (Int32))) :=
  if s_6 = 0 then
    (some (.inl (v3_5 + (1 : Int32))))
  else
    ((fn_X5_firstWay g 9 v3_5 x2 M).bind fun r_8 =>
    if r_8 = (-9 : Int32) then
      (some (.inl (v3_5 + (1 : Int32))))
    else
      (some (.inr (.inr v3_5))))
def jn_X4_nextPlanned_42 (g : Nat) (v3_4 : Int32) (x2 : Int32) (M : Mem) : Option ((Int32) ⊕ ((Unit) ⊕ (Int32))) :=
  jn_X4_nextPlanned_43 g (0 : Int32) v3_4 x2 M
def bd_X4_nextPlanned_2 (g : Nat) (x1 : Int32) (x2 : Int32) (M : Mem) : (Int32) → Option ((Int32) ⊕ ((Unit) ⊕ (Int32))) :=
  u1 fun v3_1 =>
  if (M 9 5) ≤ v3_1 then
    (some (.inr (.inl ())))
  else
    (if (fn_X7_has (x1 &&& (x2 ^^^ (-1 : Int32))) v3_1) = 0 then
      (jn_X4_nextPlanned_42 g v3_1 x2 M)
    else
      (if inb (x2 ||| (sl (1 : Int32) v3_1)) 256 then
      if (M 20 (ix (x2 ||| (sl (1 : Int32) v3_1)))) = 0 then
        (jn_X4_nextPlanned_42 g v3_1 x2 M)
      else
        (jn_X4_nextPlanned_43 g (1 : Int32) v3_1 x2 M)
      else none))
def fn_X4_nextPlanned (g : Nat) (x1 : Int32) (x2 : Int32) (M : Mem) : Option (Int32) :=
  (lpN g (bd_X4_nextPlanned_2 g x1 x2 M) (0 : Int32)).bind (el (fun (_ : Unit) =>
    some (-9 : Int32)) (fun rr => some rr))
theorem dX4_nextPlanned_0 : decode cX4_nextPlanned 0 = .ok (.iconst 0, 1) := by decide +kernel
theorem dX4_nextPlanned_1 : decode cX4_nextPlanned 1 = .ok (.istore_n 3, 1) := by decide +kernel
theorem dX4_nextPlanned_2 : decode cX4_nextPlanned 2 = .ok (.iload_n 3, 1) := by decide +kernel
theorem dX4_nextPlanned_3 : decode cX4_nextPlanned 3 = .ok (.aload_n 0, 1) := by decide +kernel
theorem dX4_nextPlanned_4 : decode cX4_nextPlanned 4 = .ok (.getfield 35, 3) := by decide +kernel
theorem dX4_nextPlanned_7 : decode cX4_nextPlanned 7 = .ok (.getfield 39, 3) := by decide +kernel
theorem dX4_nextPlanned_10 : decode cX4_nextPlanned 10 = .ok (.if_icmp .ge 62, 3) := by decide +kernel
theorem dX4_nextPlanned_13 : decode cX4_nextPlanned 13 = .ok (.iload_n 1, 1) := by decide +kernel
theorem dX4_nextPlanned_14 : decode cX4_nextPlanned 14 = .ok (.iload_n 2, 1) := by decide +kernel
theorem dX4_nextPlanned_15 : decode cX4_nextPlanned 15 = .ok (.iconst (-1), 1) := by decide +kernel
theorem dX4_nextPlanned_16 : decode cX4_nextPlanned 16 = .ok (.ixor, 1) := by decide +kernel
theorem dX4_nextPlanned_17 : decode cX4_nextPlanned 17 = .ok (.iand, 1) := by decide +kernel
theorem dX4_nextPlanned_18 : decode cX4_nextPlanned 18 = .ok (.iload_n 3, 1) := by decide +kernel
theorem dX4_nextPlanned_19 : decode cX4_nextPlanned 19 = .ok (.invokestatic 76, 3) := by decide +kernel
theorem dX4_nextPlanned_22 : decode cX4_nextPlanned 22 = .ok (.ifCond .eq 20, 3) := by decide +kernel
theorem dX4_nextPlanned_25 : decode cX4_nextPlanned 25 = .ok (.aload_n 0, 1) := by decide +kernel
theorem dX4_nextPlanned_26 : decode cX4_nextPlanned 26 = .ok (.getfield 27, 3) := by decide +kernel
theorem dX4_nextPlanned_29 : decode cX4_nextPlanned 29 = .ok (.iload_n 2, 1) := by decide +kernel
theorem dX4_nextPlanned_30 : decode cX4_nextPlanned 30 = .ok (.iconst 1, 1) := by decide +kernel
theorem dX4_nextPlanned_31 : decode cX4_nextPlanned 31 = .ok (.iload_n 3, 1) := by decide +kernel
theorem dX4_nextPlanned_32 : decode cX4_nextPlanned 32 = .ok (.ishl, 1) := by decide +kernel
theorem dX4_nextPlanned_33 : decode cX4_nextPlanned 33 = .ok (.ior, 1) := by decide +kernel
theorem dX4_nextPlanned_34 : decode cX4_nextPlanned 34 = .ok (.baload, 1) := by decide +kernel
theorem dX4_nextPlanned_35 : decode cX4_nextPlanned 35 = .ok (.ifCond .eq 7, 3) := by decide +kernel
theorem dX4_nextPlanned_38 : decode cX4_nextPlanned 38 = .ok (.iconst 1, 1) := by decide +kernel
theorem dX4_nextPlanned_39 : decode cX4_nextPlanned 39 = .ok (.goto 4, 3) := by decide +kernel
theorem dX4_nextPlanned_42 : decode cX4_nextPlanned 42 = .ok (.iconst 0, 1) := by decide +kernel
theorem dX4_nextPlanned_43 : decode cX4_nextPlanned 43 = .ok (.istore 4, 2) := by decide +kernel
theorem dX4_nextPlanned_45 : decode cX4_nextPlanned 45 = .ok (.iload 4, 2) := by decide +kernel
theorem dX4_nextPlanned_47 : decode cX4_nextPlanned 47 = .ok (.ifCond .eq 19, 3) := by decide +kernel
theorem dX4_nextPlanned_50 : decode cX4_nextPlanned 50 = .ok (.aload_n 0, 1) := by decide +kernel
theorem dX4_nextPlanned_51 : decode cX4_nextPlanned 51 = .ok (.getfield 35, 3) := by decide +kernel
theorem dX4_nextPlanned_54 : decode cX4_nextPlanned 54 = .ok (.iload_n 3, 1) := by decide +kernel
theorem dX4_nextPlanned_55 : decode cX4_nextPlanned 55 = .ok (.iload_n 2, 1) := by decide +kernel
theorem dX4_nextPlanned_56 : decode cX4_nextPlanned 56 = .ok (.invokevirtual 48, 3) := by decide +kernel
theorem dX4_nextPlanned_59 : decode cX4_nextPlanned 59 = .ok (.bipush (-9), 2) := by decide +kernel
theorem dX4_nextPlanned_61 : decode cX4_nextPlanned 61 = .ok (.if_icmp .eq 5, 3) := by decide +kernel
theorem dX4_nextPlanned_64 : decode cX4_nextPlanned 64 = .ok (.iload_n 3, 1) := by decide +kernel
theorem dX4_nextPlanned_65 : decode cX4_nextPlanned 65 = .ok (.ireturn, 1) := by decide +kernel
theorem dX4_nextPlanned_66 : decode cX4_nextPlanned 66 = .ok (.iinc 3 1, 3) := by decide +kernel
theorem dX4_nextPlanned_69 : decode cX4_nextPlanned 69 = .ok (.goto (-67), 3) := by decide +kernel
theorem dX4_nextPlanned_72 : decode cX4_nextPlanned 72 = .ok (.bipush (-9), 2) := by decide +kernel
theorem dX4_nextPlanned_74 : decode cX4_nextPlanned 74 = .ok (.ireturn, 1) := by decide +kernel
set_option maxHeartbeats 4000000 in
set_option maxRecDepth 100000 in
theorem c_X4_nextPlanned {l : Launch} {X : En} (g : Nat) (x1 : Int32) (x2 : Int32) (M : Mem) (r : Int32) (hf : fn_X4_nextPlanned g x1 x2 M = some r) : Cn l X yX4_nextPlanned cX4_nextPlanned 5 (some .int) 2 46 [.ref (X.ad 14), .int x1, .int x2] M (Qi X r M) := by
  refine Met.ofW (cc := cX4_nextPlanned) (maxL := 5) (ret := (some .int)) (by decide) rfl ?_
  intro p e s m args below meth c s₁ B hml hv
  obtain ⟨rfl, hP, hk⟩ := hv
  have hx := B.exec
  have hb := B.bytes
  have hr := B.returns
  have hlocks := B.notSynchronized
  have hts : ∀ w ∈ lw_u, w.before ([.ref (X.ad 14), .int x1, .int x2] : List Value).toArray s = true := fun w hw => atoms_spec (ws := Cond.code yX4_nextPlanned cX4_nextPlanned 5 (some .int) :: lw_u) B.pre w (List.mem_cons_of_mem _ hw)
  have hown : s.vm.findClass RX4 = some m.cls := findClass_of_methodNamed B.named
  have hZ : Fx p c m s ([.ref (X.ad 14), .int x1, .int x2] : List Value).toArray X cX4_nextPlanned 5 RX4 := ⟨hx, hb, hml, hts, hown, hk⟩
  have hS : va_S X.A s.heap s.heap [] := va_S.rf
  have hl := lv_entry ([.ref (X.ad 14), .int x1, .int x2]) (n := 5) (Nat.le_of_ble_eq_true rfl)
  rw [lg_entry_eq]
  generalize (lg_sl ([.ref (X.ad 14), .int x1, .int x2]) ++ List.replicate (5 - (lg_sl ([.ref (X.ad 14), .int x1, .int x2])).length) Slot.unset).toArray = ls at hl ⊢
  have hl : lv_has ls 5 [(0, .ref (X.ad 14)), (1, .int x1), (2, .int x2)] := hl
  show WW p l e 2 46 s m [.ref (X.ad 14), .int x1, .int x2] below meth c X (Qi X r M) s.heap [] 0 ls []
  have hP : wd X M s.heap := hP
  unfold fn_X4_nextPlanned at hf
  have key : ∀ (H : Heap) (locs : List Loc), wd X M H → va_S X.A s.heap H locs → WW p l e 2 46 s m [.ref (X.ad 14), .int x1, .int x2] below meth c X (Qi X r M) H locs 0 ls [] := by
    intro H locs hP hS
    refine lv_iconst (v := (0 : Int32)) hx hb dX4_nextPlanned_0 (by decide) ?_
    refine lv_istore_n (lv' := [(3, .int (0 : Int32)), (0, .ref (X.ad 14)), (1, .int x1), (2, .int x2)]) hx hb dX4_nextPlanned_1 rfl hl (by decide) rfl (fun ls hl => ?_)
    obtain ⟨o2, ho2, hf⟩ := b_d hf
    refine lp_rule (b := bd_X4_nextPlanned_2 g x1 x2 M) (P := fun w : Int32 => ∀ (H : Heap) (locs : List Loc) (ls : Array Slot), wd X M H → va_S X.A s.heap H locs → lv_has ls 5 [(3, .int w), (0, .ref (X.ad 14)), (1, .int x1), (2, .int x2)] → WW p l e 2 46 s m [.ref (X.ad 14), .int x1, .int x2] below meth c X (Qi X r M) H locs 2 ls []) (K := fun o => (o = .inl () → ∀ (H : Heap) (locs : List Loc) (ls : Array Slot), wd X M H → va_S X.A s.heap H locs → lv_has ls 5 [] → WW p l e 2 46 s m [.ref (X.ad 14), .int x1, .int x2] below meth c X (Qi X r M) H locs 72 ls []) ∧ (∀ rr : Int32, o = .inr rr → rr = r)) ?_ g (0 : Int32) o2 ho2 ?_ H locs ls hP hS (lv_sub hl [0, 1, 2, 3] rfl)
    · rintro v3_1 o hf hkc2 hke2 H locs ls hP hS hl
      have hf := u1_e hf
      have jn43 : ∀ (v3_5 : Int32) (s_6 : Int32), jn_X4_nextPlanned_43 g s_6 v3_5 x2 M = some o → ∀ (H : Heap) (locs : List Loc) (ls : Array Slot), wd X M H → va_S X.A s.heap H locs → lv_has ls 5 [(0, .ref (X.ad 14)), (1, .int x1), (2, .int x2), (3, .int v3_5)] → WW p l e 2 46 s m [.ref (X.ad 14), .int x1, .int x2] below meth c X (Qi X r M) H locs 43 ls [.int s_6] := by
        intro v3_5 s_6  hf H locs ls hP hS hl
        unfold jn_X4_nextPlanned_43 at hf
        refine lv_istore (lv' := [(4, .int s_6), (0, .ref (X.ad 14)), (1, .int x1), (2, .int x2), (3, .int v3_5)]) hx hb dX4_nextPlanned_43 hl (by decide) rfl (fun ls hl => ?_)
        refine lv_iload hx hb dX4_nextPlanned_45 (lv_at hl 0 rfl) ?_
        refine lv_if_eq (tgt := 66) hx hb dX4_nextPlanned_47 (by decide) (fun c_7 => ?_) (fun c_7 => ?_)
        · have hf := i_t c_7 hf
          refine lv_iinc (v := v3_5 + (1 : Int32)) (lv' := [(3, .int (v3_5 + (1 : Int32))), (4, .int s_6), (0, .ref (X.ad 14)), (1, .int x1), (2, .int x2)]) hx hb dX4_nextPlanned_66 hl (k := 4) rfl rfl (by decide) rfl (fun ls hl => ?_)
          refine lv_goto (tgt := 2) hx hb dX4_nextPlanned_69 (by decide) ?_
          exact hkc2 _ (Option.some.inj hf).symm H locs ls hP hS (lv_sub hl [0, 2, 3, 4] rfl)
        · have hf := i_f c_7 hf
          refine lv_aload_n hx hb dX4_nextPlanned_50 rfl (lv_at hl 1 rfl) ?_
          refine gX4_5 hx hb hts hown hk hP wd_1_127 dX4_nextPlanned_51 ?_
          refine lv_iload_n hx hb dX4_nextPlanned_54 rfl (lv_at hl 4 rfl) ?_
          refine lv_iload_n hx hb dX4_nextPlanned_55 rfl (lv_at hl 3 rfl) ?_
          obtain ⟨r_8, h_r_8, hf⟩ := b_d hf
          refine k_X5_firstWay hZ hP hS hl.1 wd_3_38 ⟨Nat.le_of_ble_eq_true rfl, Nat.le_of_ble_eq_true rfl⟩ (Nat.le_of_ble_eq_true rfl) dX4_nextPlanned_56 ⟨Nat.zero_le _, Nat.zero_le _⟩ isR_9 h_r_8 (fun H locs hP hS => ?_)
          refine lv_bipush (v := (-9 : Int32)) hx hb dX4_nextPlanned_59 (by decide) ?_
          refine lv_icmp_eq (tgt := 66) hx hb dX4_nextPlanned_61 (by decide) (fun c_9 => ?_) (fun c_9 => ?_)
          · have hf := i_t c_9 hf
            refine lv_iinc (v := v3_5 + (1 : Int32)) (lv' := [(3, .int (v3_5 + (1 : Int32))), (4, .int s_6), (0, .ref (X.ad 14)), (1, .int x1), (2, .int x2)]) hx hb dX4_nextPlanned_66 hl (k := 4) rfl rfl (by decide) rfl (fun ls hl => ?_)
            refine lv_goto (tgt := 2) hx hb dX4_nextPlanned_69 (by decide) ?_
            exact hkc2 _ (Option.some.inj hf).symm H locs ls hP hS (lv_sub hl [0, 2, 3, 4] rfl)
          · have hf := i_f c_9 hf
            refine lv_iload_n hx hb dX4_nextPlanned_64 rfl (lv_at hl 4 rfl) ?_
            have hf := (hke2 _ (Option.some.inj hf).symm).2 _ rfl
            exact ret_i hx hb hr hlocks hP hS hf dX4_nextPlanned_65
      have jn42 : ∀ (v3_4 : Int32), jn_X4_nextPlanned_42 g v3_4 x2 M = some o → ∀ (H : Heap) (locs : List Loc) (ls : Array Slot), wd X M H → va_S X.A s.heap H locs → lv_has ls 5 [(0, .ref (X.ad 14)), (1, .int x1), (2, .int x2), (3, .int v3_4)] → WW p l e 2 46 s m [.ref (X.ad 14), .int x1, .int x2] below meth c X (Qi X r M) H locs 42 ls [] := by
        intro v3_4  hf H locs ls hP hS hl
        unfold jn_X4_nextPlanned_42 at hf
        refine lv_iconst (v := (0 : Int32)) hx hb dX4_nextPlanned_42 (by decide) ?_
        exact jn43 v3_4 (0 : Int32) hf H locs ls hP hS (lv_sub hl [0, 1, 2, 3] rfl)
      refine lv_iload_n hx hb dX4_nextPlanned_2 rfl (lv_at hl 0 rfl) ?_
      refine lv_aload_n hx hb dX4_nextPlanned_3 rfl (lv_at hl 1 rfl) ?_
      refine gX4_5 hx hb hts hown hk hP wd_1_127 dX4_nextPlanned_4 ?_
      refine gnX5_5 hx hb hts hown hk hP isR_9 (nest_2 hk.2.1) dX4_nextPlanned_7 ?_
      refine lv_icmp_ge (tgt := 72) hx hb dX4_nextPlanned_10 (by decide) (fun c_2 => ?_) (fun c_2 => ?_)
      · have hf := i_t c_2 hf
        exact (hke2 _ (Option.some.inj hf).symm).1  rfl H locs ls hP hS (lv_sub hl [] rfl)
      · have hf := i_f c_2 hf
        refine lv_iload_n hx hb dX4_nextPlanned_13 rfl (lv_at hl 2 rfl) ?_
        refine lv_iload_n hx hb dX4_nextPlanned_14 rfl (lv_at hl 3 rfl) ?_
        refine lv_iconst (v := (-1 : Int32)) hx hb dX4_nextPlanned_15 (by decide) ?_
        refine lv_ixor hx hb dX4_nextPlanned_16 ?_
        refine lv_iand hx hb dX4_nextPlanned_17 ?_
        refine lv_iload_n hx hb dX4_nextPlanned_18 rfl (lv_at hl 0 rfl) ?_
        refine kn_X7_has hZ hP hS hl.1 (nest_11 hk.2.1) ⟨Nat.le_of_ble_eq_true rfl, Nat.le_of_ble_eq_true rfl⟩ (Nat.le_of_ble_eq_true rfl) dX4_nextPlanned_19 ⟨Nat.zero_le _, Nat.zero_le _⟩ (fun H locs hP hS => ?_)
        refine lv_if_eq (tgt := 42) hx hb dX4_nextPlanned_22 (by decide) (fun c_3 => ?_) (fun c_3 => ?_)
        · have hf := i_t c_3 hf
          exact jn42 v3_1 hf H locs ls hP hS (lv_sub hl [1, 2, 3, 0] rfl)
        · have hf := i_f c_3 hf
          refine lv_aload_n hx hb dX4_nextPlanned_25 rfl (lv_at hl 1 rfl) ?_
          refine gX4_7 hx hb hts hown hk hP wd_1_129 dX4_nextPlanned_26 ?_
          refine lv_iload_n hx hb dX4_nextPlanned_29 rfl (lv_at hl 3 rfl) ?_
          refine lv_iconst (v := (1 : Int32)) hx hb dX4_nextPlanned_30 (by decide) ?_
          refine lv_iload_n hx hb dX4_nextPlanned_31 rfl (lv_at hl 0 rfl) ?_
          refine rw_ishl hx hb dX4_nextPlanned_32 ?_
          refine lv_ior hx hb dX4_nextPlanned_33 ?_
          obtain ⟨q_10, hf⟩ := g_if hf
          refine zald hx hb hk hP (by decide) rfl q_10 dX4_nextPlanned_34 ?_
          refine lv_if_eq (tgt := 42) hx hb dX4_nextPlanned_35 (by decide) (fun c_11 => ?_) (fun c_11 => ?_)
          · have hf := i_t c_11 hf
            exact jn42 v3_1 hf H locs ls hP hS (lv_sub hl [1, 2, 3, 0] rfl)
          · have hf := i_f c_11 hf
            refine lv_iconst (v := (1 : Int32)) hx hb dX4_nextPlanned_38 (by decide) ?_
            refine lv_goto (tgt := 43) hx hb dX4_nextPlanned_39 (by decide) ?_
            exact jn43 v3_1 (1 : Int32) hf H locs ls hP hS (lv_sub hl [1, 2, 3, 0] rfl)
    · refine ⟨?_, ?_⟩
      · intro  e H locs ls hP hS hl
        subst o2
        have hf := el_l hf
        refine lv_bipush (v := (-9 : Int32)) hx hb dX4_nextPlanned_72 (by decide) ?_
        have hf := Option.some.inj hf
        exact ret_i hx hb hr hlocks hP hS hf dX4_nextPlanned_74
      · intro rr e
        subst o2
        have hf := el_r hf
        exact Option.some.inj hf
  exact key s.heap [] hP hS
theorem hd_X4_nextPlanned : Hd yX4_nextPlanned 2 := by decide +kernel
theorem k_X4_nextPlanned {p : Program} {l : Launch} {e : Env} {R : Room} {s : State} {m : MethodId} {args : Array Value} {below : List Frame} {meth : Method} {c : Code} {H : Heap} {locs : List Loc} {cells slots : Nat} {Q : State → Prop} {cc : ByteArray} {nL pc index : Nat} {ls : Array Slot} {rest : List Value} {X : En} {M : Mem} {H0 : Heap} {own : String} {g : Nat} {x1 : Int32} {x2 : Int32} {r : Int32} (hZ : Fx p c m s args X cc nL own) (hP : wd X M H) (hS : va_S X.A H0 H locs) (hsz : ls.size = nL) (hlk : Cond.methodLink own index yX4_nextPlanned ∈ lw_u) (hR : 2 + 1 ≤ R.frames ∧ 8 + (5 + 11) + 46 ≤ R.locals) (hW : (rest.map fun v => v.category).sum ≤ 8) (hdg : decode cc pc = .ok (.invokevirtual index, 3)) (hcs : cells ≤ R.cells ∧ slots ≤ R.slots) (hf : fn_X4_nextPlanned g x1 x2 M = some r)
    (kk : ∀ (H1 : Heap) (locs1 : List Loc), wd X M H1 → va_S X.A H0 H1 locs1 → W p l e R s m args below meth c H1 locs1 cells slots Q (F0 m (pc + 3) ls (.int r :: rest))) : W p l e R s m args below meth c H locs cells slots Q (F0 m pc ls (.int x2 :: .int x1 :: .ref (X.ad 14) :: rest)) :=
  cal_i (runV (As := [.int x1, .int x2]) (rest := rest) hZ.1 hZ.2.1 hZ.2.2.1 hZ.2.2.2.1 hZ.2.2.2.2.1 hZ.2.2.2.2.2 hP (c_X4_nextPlanned g x1 x2 M r hf) wd_3_65 wd_3_64 wd_p_20 wd_1_5 hd_X4_nextPlanned (by decide) rfl rfl rfl hlk hR hsz rfl hW hdg hcs) hS kk
/-! FrameRaiser$Planner.markLeading -/
def jn_X4_markLeading_59 (s_16 : Int32) (s_17 : Int32) (v2_15 : Int32) (M_18 : Mem) : Option ((Int32 × Mem) ⊕ (Mem)) :=
  if inb s_17 256 then
  if isZ s_16 then
  bv (st M_18 20 (ix s_17) s_16) fun M_19 =>
  some (.inl (v2_15 + (-1 : Int32), M_19))
  else none
  else none
def jn_X4_markLeading_58 (s_13 : Int32) (v2_12 : Int32) (M_14 : Mem) : Option ((Int32 × Mem) ⊕ (Mem)) :=
  jn_X4_markLeading_59 (0 : Int32) s_13 v2_12 M_14
def bd_X4_markLeading_11 (g : Nat) (x1 : Int32) : (Int32 × Mem) → Option ((Int32 × Mem) ⊕ (Mem)) :=
  u2 fun v2_4 M_5 =>
  if v2_4 < 0 then
    (some (.inr M_5))
  else
    (if (v2_4 &&& (x1 ^^^ (-1 : Int32))) = 0 then
      (if inb v2_4 256 then
      if inb x1 256 then
      if (M_5 16 (ix x1)) < (M_5 19 (ix v2_4)) then
        (jn_X4_markLeading_58 v2_4 v2_4 M_5)
      else
        ((fn_X4_nextPlanned g x1 v2_4 M_5).bind fun r_22 =>
        if r_22 = (-9 : Int32) then
          (jn_X4_markLeading_58 v2_4 v2_4 M_5)
        else
          (jn_X4_markLeading_59 (1 : Int32) v2_4 v2_4 M_5))
      else none
      else none)
    else
      (some (.inl (v2_4 + (-1 : Int32), M_5))))
def fn_X4_markLeading (g : Nat) (x1 : Int32) (M : Mem) : Option (Mem) :=
  if inb x1 256 then
  bv (st M 20 (ix x1) (1 : Int32)) fun M_1 =>
  bv (x1 - (1 : Int32)) fun v2_3 =>
  (lpN g (bd_X4_markLeading_11 g x1) (v2_3, M_1)).bind (u1 fun M_6 =>
    some M_6)
  else none
theorem dX4_markLeading_0 : decode cX4_markLeading 0 = .ok (.aload_n 0, 1) := by decide +kernel
theorem dX4_markLeading_1 : decode cX4_markLeading 1 = .ok (.getfield 27, 3) := by decide +kernel
theorem dX4_markLeading_4 : decode cX4_markLeading 4 = .ok (.iload_n 1, 1) := by decide +kernel
theorem dX4_markLeading_5 : decode cX4_markLeading 5 = .ok (.iconst 1, 1) := by decide +kernel
theorem dX4_markLeading_6 : decode cX4_markLeading 6 = .ok (.bastore, 1) := by decide +kernel
theorem dX4_markLeading_7 : decode cX4_markLeading 7 = .ok (.iload_n 1, 1) := by decide +kernel
theorem dX4_markLeading_8 : decode cX4_markLeading 8 = .ok (.iconst 1, 1) := by decide +kernel
theorem dX4_markLeading_9 : decode cX4_markLeading 9 = .ok (.isub, 1) := by decide +kernel
theorem dX4_markLeading_10 : decode cX4_markLeading 10 = .ok (.istore_n 2, 1) := by decide +kernel
theorem dX4_markLeading_11 : decode cX4_markLeading 11 = .ok (.iload_n 2, 1) := by decide +kernel
theorem dX4_markLeading_12 : decode cX4_markLeading 12 = .ok (.ifCond .lt 54, 3) := by decide +kernel
theorem dX4_markLeading_15 : decode cX4_markLeading 15 = .ok (.iload_n 2, 1) := by decide +kernel
theorem dX4_markLeading_16 : decode cX4_markLeading 16 = .ok (.iload_n 1, 1) := by decide +kernel
theorem dX4_markLeading_17 : decode cX4_markLeading 17 = .ok (.iconst (-1), 1) := by decide +kernel
theorem dX4_markLeading_18 : decode cX4_markLeading 18 = .ok (.ixor, 1) := by decide +kernel
theorem dX4_markLeading_19 : decode cX4_markLeading 19 = .ok (.iand, 1) := by decide +kernel
theorem dX4_markLeading_20 : decode cX4_markLeading 20 = .ok (.ifCond .ne 40, 3) := by decide +kernel
theorem dX4_markLeading_23 : decode cX4_markLeading 23 = .ok (.aload_n 0, 1) := by decide +kernel
theorem dX4_markLeading_24 : decode cX4_markLeading 24 = .ok (.getfield 27, 3) := by decide +kernel
theorem dX4_markLeading_27 : decode cX4_markLeading 27 = .ok (.iload_n 2, 1) := by decide +kernel
theorem dX4_markLeading_28 : decode cX4_markLeading 28 = .ok (.aload_n 0, 1) := by decide +kernel
theorem dX4_markLeading_29 : decode cX4_markLeading 29 = .ok (.getfield 24, 3) := by decide +kernel
theorem dX4_markLeading_32 : decode cX4_markLeading 32 = .ok (.iload_n 2, 1) := by decide +kernel
theorem dX4_markLeading_33 : decode cX4_markLeading 33 = .ok (.iaload, 1) := by decide +kernel
theorem dX4_markLeading_34 : decode cX4_markLeading 34 = .ok (.aload_n 0, 1) := by decide +kernel
theorem dX4_markLeading_35 : decode cX4_markLeading 35 = .ok (.getfield 15, 3) := by decide +kernel
theorem dX4_markLeading_38 : decode cX4_markLeading 38 = .ok (.iload_n 1, 1) := by decide +kernel
theorem dX4_markLeading_39 : decode cX4_markLeading 39 = .ok (.iaload, 1) := by decide +kernel
theorem dX4_markLeading_40 : decode cX4_markLeading 40 = .ok (.if_icmp .gt 18, 3) := by decide +kernel
theorem dX4_markLeading_43 : decode cX4_markLeading 43 = .ok (.aload_n 0, 1) := by decide +kernel
theorem dX4_markLeading_44 : decode cX4_markLeading 44 = .ok (.iload_n 1, 1) := by decide +kernel
theorem dX4_markLeading_45 : decode cX4_markLeading 45 = .ok (.iload_n 2, 1) := by decide +kernel
theorem dX4_markLeading_46 : decode cX4_markLeading 46 = .ok (.invokevirtual 73, 3) := by decide +kernel
theorem dX4_markLeading_49 : decode cX4_markLeading 49 = .ok (.bipush (-9), 2) := by decide +kernel
theorem dX4_markLeading_51 : decode cX4_markLeading 51 = .ok (.if_icmp .eq 7, 3) := by decide +kernel
theorem dX4_markLeading_54 : decode cX4_markLeading 54 = .ok (.iconst 1, 1) := by decide +kernel
theorem dX4_markLeading_55 : decode cX4_markLeading 55 = .ok (.goto 4, 3) := by decide +kernel
theorem dX4_markLeading_58 : decode cX4_markLeading 58 = .ok (.iconst 0, 1) := by decide +kernel
theorem dX4_markLeading_59 : decode cX4_markLeading 59 = .ok (.bastore, 1) := by decide +kernel
theorem dX4_markLeading_60 : decode cX4_markLeading 60 = .ok (.iinc 2 (-1), 3) := by decide +kernel
theorem dX4_markLeading_63 : decode cX4_markLeading 63 = .ok (.goto (-52), 3) := by decide +kernel
theorem dX4_markLeading_66 : decode cX4_markLeading 66 = .ok (.return_, 1) := by decide +kernel
set_option maxHeartbeats 4000000 in
set_option maxRecDepth 100000 in
theorem c_X4_markLeading {l : Launch} {X : En} (g : Nat) (x1 : Int32) (M : Mem) (M9 : Mem) (hf : fn_X4_markLeading g x1 M = some M9) : Cn l X yX4_markLeading cX4_markLeading 3 none 3 70 [.ref (X.ad 14), .int x1] M (Qv X M9) := by
  refine Met.ofW (cc := cX4_markLeading) (maxL := 3) (ret := none) (by decide) rfl ?_
  intro p e s m args below meth c s₁ B hml hv
  obtain ⟨rfl, hP, hk⟩ := hv
  have hx := B.exec
  have hb := B.bytes
  have hr := B.returns
  have hlocks := B.notSynchronized
  have hts : ∀ w ∈ lw_u, w.before ([.ref (X.ad 14), .int x1] : List Value).toArray s = true := fun w hw => atoms_spec (ws := Cond.code yX4_markLeading cX4_markLeading 3 none :: lw_u) B.pre w (List.mem_cons_of_mem _ hw)
  have hown : s.vm.findClass RX4 = some m.cls := findClass_of_methodNamed B.named
  have hZ : Fx p c m s ([.ref (X.ad 14), .int x1] : List Value).toArray X cX4_markLeading 3 RX4 := ⟨hx, hb, hml, hts, hown, hk⟩
  have hS : va_S X.A s.heap s.heap [] := va_S.rf
  have hl := lv_entry ([.ref (X.ad 14), .int x1]) (n := 3) (Nat.le_of_ble_eq_true rfl)
  rw [lg_entry_eq]
  generalize (lg_sl ([.ref (X.ad 14), .int x1]) ++ List.replicate (3 - (lg_sl ([.ref (X.ad 14), .int x1])).length) Slot.unset).toArray = ls at hl ⊢
  have hl : lv_has ls 3 [(0, .ref (X.ad 14)), (1, .int x1)] := hl
  show WW p l e 3 70 s m [.ref (X.ad 14), .int x1] below meth c X (Qv X M9) s.heap [] 0 ls []
  have hP : wd X M s.heap := hP
  unfold fn_X4_markLeading at hf
  have key : ∀ (H : Heap) (locs : List Loc), wd X M H → va_S X.A s.heap H locs → WW p l e 3 70 s m [.ref (X.ad 14), .int x1] below meth c X (Qv X M9) H locs 0 ls [] := by
    intro H locs hP hS
    refine lv_aload_n hx hb dX4_markLeading_0 rfl (lv_at hl 0 rfl) ?_
    refine gX4_7 hx hb hts hown hk hP wd_1_129 dX4_markLeading_1 ?_
    refine lv_iload_n hx hb dX4_markLeading_4 rfl (lv_at hl 1 rfl) ?_
    refine lv_iconst (v := (1 : Int32)) hx hb dX4_markLeading_5 (by decide) ?_
    obtain ⟨q_2, hf⟩ := g_if hf
    refine zast hx hb hk hP hS (by decide) (fun _ => rfl) q_2 isZ_1 dX4_markLeading_6 (fun H locs M_1 e_M_1 hP hS => ?_)
    have hf := b_v hf e_M_1
    refine lv_iload_n hx hb dX4_markLeading_7 rfl (lv_at hl 1 rfl) ?_
    refine lv_iconst (v := (1 : Int32)) hx hb dX4_markLeading_8 (by decide) ?_
    refine lv_isub hx hb dX4_markLeading_9 ?_
    refine lv_topi (fun v2_3 e_v2_3 => ?_)
    have hf := b_v hf e_v2_3
    refine lv_istore_n (lv' := [(2, .int v2_3), (0, .ref (X.ad 14)), (1, .int x1)]) hx hb dX4_markLeading_10 rfl hl (by decide) rfl (fun ls hl => ?_)
    obtain ⟨o11, ho11, hf⟩ := b_d hf
    refine lp_rule (b := bd_X4_markLeading_11 g x1) (P := fun w : Int32 × Mem => ∀ (H : Heap) (locs : List Loc) (ls : Array Slot), wd X w.2 H → va_S X.A s.heap H locs → lv_has ls 3 [(2, .int w.1), (0, .ref (X.ad 14)), (1, .int x1)] → WW p l e 3 70 s m [.ref (X.ad 14), .int x1] below meth c X (Qv X M9) H locs 11 ls []) (K := fun o => ∀ (M_6 : Mem), o = M_6 → ∀ (H : Heap) (locs : List Loc) (ls : Array Slot), wd X M_6 H → va_S X.A s.heap H locs → lv_has ls 3 [] → WW p l e 3 70 s m [.ref (X.ad 14), .int x1] below meth c X (Qv X M9) H locs 66 ls []) ?_ g (v2_3, M_1) o11 ho11 ?_ H locs ls hP hS (lv_sub hl [0, 1, 2] rfl)
    · rintro ⟨v2_4, M_5⟩ o hf hkc11 hke11 H locs ls hP hS hl
      have hf := u2_e hf
      have jn59 : ∀ (v2_15 : Int32) (s_16 : Int32) (s_17 : Int32) (M_18 : Mem), jn_X4_markLeading_59 s_16 s_17 v2_15 M_18 = some o → ∀ (H : Heap) (locs : List Loc) (ls : Array Slot), wd X M_18 H → va_S X.A s.heap H locs → lv_has ls 3 [(0, .ref (X.ad 14)), (1, .int x1), (2, .int v2_15)] → WW p l e 3 70 s m [.ref (X.ad 14), .int x1] below meth c X (Qv X M9) H locs 59 ls [.int s_16, .int s_17, .ref (X.ad 20)] := by
        intro v2_15 s_16 s_17 M_18 hf H locs ls hP hS hl
        unfold jn_X4_markLeading_59 at hf
        obtain ⟨q_20, hf⟩ := g_if hf
        obtain ⟨z_21, hf⟩ := g_if hf
        refine zast hx hb hk hP hS (by decide) (fun _ => rfl) q_20 z_21 dX4_markLeading_59 (fun H locs M_19 e_M_19 hP hS => ?_)
        have hf := b_v hf e_M_19
        refine lv_iinc (v := v2_15 + (-1 : Int32)) (lv' := [(2, .int (v2_15 + (-1 : Int32))), (0, .ref (X.ad 14)), (1, .int x1)]) hx hb dX4_markLeading_60 hl (k := 2) rfl rfl (by decide) rfl (fun ls hl => ?_)
        refine lv_goto (tgt := 11) hx hb dX4_markLeading_63 (by decide) ?_
        exact hkc11 _ (Option.some.inj hf).symm H locs ls hP hS (lv_sub hl [0, 1, 2] rfl)
      have jn58 : ∀ (v2_12 : Int32) (s_13 : Int32) (M_14 : Mem), jn_X4_markLeading_58 s_13 v2_12 M_14 = some o → ∀ (H : Heap) (locs : List Loc) (ls : Array Slot), wd X M_14 H → va_S X.A s.heap H locs → lv_has ls 3 [(0, .ref (X.ad 14)), (1, .int x1), (2, .int v2_12)] → WW p l e 3 70 s m [.ref (X.ad 14), .int x1] below meth c X (Qv X M9) H locs 58 ls [.int s_13, .ref (X.ad 20)] := by
        intro v2_12 s_13 M_14 hf H locs ls hP hS hl
        unfold jn_X4_markLeading_58 at hf
        refine lv_iconst (v := (0 : Int32)) hx hb dX4_markLeading_58 (by decide) ?_
        exact jn59 v2_12 (0 : Int32) s_13 M_14 hf H locs ls hP hS (lv_sub hl [0, 1, 2] rfl)
      refine lv_iload_n hx hb dX4_markLeading_11 rfl (lv_at hl 0 rfl) ?_
      refine lv_if_lt (tgt := 66) hx hb dX4_markLeading_12 (by decide) (fun c_7 => ?_) (fun c_7 => ?_)
      · have hf := i_t c_7 hf
        exact hke11 _ (Option.some.inj hf).symm _ rfl H locs ls hP hS (lv_sub hl [] rfl)
      · have hf := i_f c_7 hf
        refine lv_iload_n hx hb dX4_markLeading_15 rfl (lv_at hl 0 rfl) ?_
        refine lv_iload_n hx hb dX4_markLeading_16 rfl (lv_at hl 2 rfl) ?_
        refine lv_iconst (v := (-1 : Int32)) hx hb dX4_markLeading_17 (by decide) ?_
        refine lv_ixor hx hb dX4_markLeading_18 ?_
        refine lv_iand hx hb dX4_markLeading_19 ?_
        refine lv_if_ne (tgt := 60) hx hb dX4_markLeading_20 (by decide) (fun c_8 => ?_) (fun c_8 => ?_)
        · have hf := i_f c_8 hf
          refine lv_iinc (v := v2_4 + (-1 : Int32)) (lv' := [(2, .int (v2_4 + (-1 : Int32))), (0, .ref (X.ad 14)), (1, .int x1)]) hx hb dX4_markLeading_60 hl (k := 0) rfl rfl (by decide) rfl (fun ls hl => ?_)
          refine lv_goto (tgt := 11) hx hb dX4_markLeading_63 (by decide) ?_
          exact hkc11 _ (Option.some.inj hf).symm H locs ls hP hS (lv_sub hl [0, 1, 2] rfl)
        · have hf := i_t c_8 hf
          refine lv_aload_n hx hb dX4_markLeading_23 rfl (lv_at hl 1 rfl) ?_
          refine gX4_7 hx hb hts hown hk hP wd_1_129 dX4_markLeading_24 ?_
          refine lv_iload_n hx hb dX4_markLeading_27 rfl (lv_at hl 0 rfl) ?_
          refine lv_aload_n hx hb dX4_markLeading_28 rfl (lv_at hl 1 rfl) ?_
          refine gX4_6 hx hb hts hown hk hP wd_1_128 dX4_markLeading_29 ?_
          refine lv_iload_n hx hb dX4_markLeading_32 rfl (lv_at hl 0 rfl) ?_
          obtain ⟨q_9, hf⟩ := g_if hf
          refine ald hx hb hk hP (by decide) rfl q_9 dX4_markLeading_33 ?_
          refine lv_aload_n hx hb dX4_markLeading_34 rfl (lv_at hl 1 rfl) ?_
          refine gX4_1 hx hb hts hown hk hP wd_1_119 dX4_markLeading_35 ?_
          refine lv_iload_n hx hb dX4_markLeading_38 rfl (lv_at hl 2 rfl) ?_
          obtain ⟨q_10, hf⟩ := g_if hf
          refine ald hx hb hk hP (by decide) rfl q_10 dX4_markLeading_39 ?_
          refine lv_icmp_gt (tgt := 58) hx hb dX4_markLeading_40 (by decide) (fun c_11 => ?_) (fun c_11 => ?_)
          · have hf := i_t c_11 hf
            exact jn58 v2_4 v2_4 M_5 hf H locs ls hP hS (lv_sub hl [1, 2, 0] rfl)
          · have hf := i_f c_11 hf
            refine lv_aload_n hx hb dX4_markLeading_43 rfl (lv_at hl 1 rfl) ?_
            refine lv_iload_n hx hb dX4_markLeading_44 rfl (lv_at hl 2 rfl) ?_
            refine lv_iload_n hx hb dX4_markLeading_45 rfl (lv_at hl 0 rfl) ?_
            obtain ⟨r_22, h_r_22, hf⟩ := b_d hf
            refine k_X4_nextPlanned hZ hP hS hl.1 wd_3_62 ⟨Nat.le_of_ble_eq_true rfl, Nat.le_of_ble_eq_true rfl⟩ (Nat.le_of_ble_eq_true rfl) dX4_markLeading_46 ⟨Nat.zero_le _, Nat.zero_le _⟩ h_r_22 (fun H locs hP hS => ?_)
            refine lv_bipush (v := (-9 : Int32)) hx hb dX4_markLeading_49 (by decide) ?_
            refine lv_icmp_eq (tgt := 58) hx hb dX4_markLeading_51 (by decide) (fun c_23 => ?_) (fun c_23 => ?_)
            · have hf := i_t c_23 hf
              exact jn58 v2_4 v2_4 M_5 hf H locs ls hP hS (lv_sub hl [1, 2, 0] rfl)
            · have hf := i_f c_23 hf
              refine lv_iconst (v := (1 : Int32)) hx hb dX4_markLeading_54 (by decide) ?_
              refine lv_goto (tgt := 59) hx hb dX4_markLeading_55 (by decide) ?_
              exact jn59 v2_4 (1 : Int32) v2_4 M_5 hf H locs ls hP hS (lv_sub hl [1, 2, 0] rfl)
    · intro M_6 e H locs ls hP hS hl
      subst o11
      have hf := u1_e hf
      have hf := Option.some.inj hf
      rw [hf] at hP
      exact ret_v hx hb hr hlocks hP hS dX4_markLeading_66
  exact key s.heap [] hP hS
theorem hd_X4_markLeading : Hd yX4_markLeading 1 := by decide +kernel
theorem k_X4_markLeading {p : Program} {l : Launch} {e : Env} {R : Room} {s : State} {m : MethodId} {args : Array Value} {below : List Frame} {meth : Method} {c : Code} {H : Heap} {locs : List Loc} {cells slots : Nat} {Q : State → Prop} {cc : ByteArray} {nL pc index : Nat} {ls : Array Slot} {rest : List Value} {X : En} {M : Mem} {H0 : Heap} {own : String} {g : Nat} {x1 : Int32} {M9 : Mem} (hZ : Fx p c m s args X cc nL own) (hP : wd X M H) (hS : va_S X.A H0 H locs) (hsz : ls.size = nL) (hlk : Cond.methodLink own index yX4_markLeading ∈ lw_u) (hR : 3 + 1 ≤ R.frames ∧ 8 + (3 + 11) + 70 ≤ R.locals) (hW : (rest.map fun v => v.category).sum ≤ 8) (hdg : decode cc pc = .ok (.invokevirtual index, 3)) (hcs : cells ≤ R.cells ∧ slots ≤ R.slots) (hf : fn_X4_markLeading g x1 M = some M9)
    (kk : ∀ (H1 : Heap) (locs1 : List Loc), wd X M9 H1 → va_S X.A H0 H1 locs1 → W p l e R s m args below meth c H1 locs1 cells slots Q (F0 m (pc + 3) ls rest)) : W p l e R s m args below meth c H locs cells slots Q (F0 m pc ls (.int x1 :: .ref (X.ad 14) :: rest)) :=
  cal_v (runV (As := [.int x1]) (rest := rest) hZ.1 hZ.2.1 hZ.2.2.1 hZ.2.2.2.1 hZ.2.2.2.2.1 hZ.2.2.2.2.2 hP (c_X4_markLeading g x1 M M9 hf) wd_3_61 wd_3_60 wd_p_19 wd_1_5 hd_X4_markLeading (by decide) rfl rfl rfl hlk hR hsz rfl hW hdg hcs) hS kk
/-! FrameRaiser$Planner.followLeading -/
def bd_X4_followLeading_4 (g : Nat) (x1 : Int32) : (Int32 × Int32 × Mem) → Option ((Int32 × Int32 × Mem) ⊕ ((Mem) ⊕ (Mem))) :=
  u3 fun v2_2 v3_1 M_3 =>
  if (8 : Int32) ≤ v3_1 then
    (some (.inr (.inl M_3)))
  else
    (if v2_2 = x1 then
      (some (.inr (.inl M_3)))
    else
      ((fn_X4_nextPlanned g x1 v2_2 M_3).bind fun r_7 =>
      if r_7 = (-9 : Int32) then
        (some (.inr (.inr M_3)))
      else
        (if inb v3_1 8 then
        bv (st M_3 17 (ix v3_1) r_7) fun M_9 =>
        (fn_X5_firstWay g 9 r_7 v2_2 M_9).bind fun r_11 =>
        if inb v3_1 8 then
        bv (st M_9 18 (ix v3_1) r_11) fun M_12 =>
        bv (st M_12 14 4 (v3_1 + (1 : Int32))) fun M_14 =>
        bv (v2_2 ||| (sl (1 : Int32) r_7)) fun v2_15 =>
        some (.inl (v2_15, v3_1 + (1 : Int32), M_14))
        else none
        else none)))
def fn_X4_followLeading (g : Nat) (x1 : Int32) (M : Mem) : Option (Mem) :=
  (lpN g (bd_X4_followLeading_4 g x1) ((0 : Int32), (0 : Int32), M)).bind (el (u1 fun M_4 =>
    some M_4) (fun rr => some rr))
theorem dX4_followLeading_0 : decode cX4_followLeading 0 = .ok (.iconst 0, 1) := by decide +kernel
theorem dX4_followLeading_1 : decode cX4_followLeading 1 = .ok (.istore_n 2, 1) := by decide +kernel
theorem dX4_followLeading_2 : decode cX4_followLeading 2 = .ok (.iconst 0, 1) := by decide +kernel
theorem dX4_followLeading_3 : decode cX4_followLeading 3 = .ok (.istore_n 3, 1) := by decide +kernel
theorem dX4_followLeading_4 : decode cX4_followLeading 4 = .ok (.iload_n 3, 1) := by decide +kernel
theorem dX4_followLeading_5 : decode cX4_followLeading 5 = .ok (.bipush 8, 2) := by decide +kernel
theorem dX4_followLeading_7 : decode cX4_followLeading 7 = .ok (.if_icmp .ge 68, 3) := by decide +kernel
theorem dX4_followLeading_10 : decode cX4_followLeading 10 = .ok (.iload_n 2, 1) := by decide +kernel
theorem dX4_followLeading_11 : decode cX4_followLeading 11 = .ok (.iload_n 1, 1) := by decide +kernel
theorem dX4_followLeading_12 : decode cX4_followLeading 12 = .ok (.if_icmp .eq 63, 3) := by decide +kernel
theorem dX4_followLeading_15 : decode cX4_followLeading 15 = .ok (.aload_n 0, 1) := by decide +kernel
theorem dX4_followLeading_16 : decode cX4_followLeading 16 = .ok (.iload_n 1, 1) := by decide +kernel
theorem dX4_followLeading_17 : decode cX4_followLeading 17 = .ok (.iload_n 2, 1) := by decide +kernel
theorem dX4_followLeading_18 : decode cX4_followLeading 18 = .ok (.invokevirtual 73, 3) := by decide +kernel
theorem dX4_followLeading_21 : decode cX4_followLeading 21 = .ok (.istore 4, 2) := by decide +kernel
theorem dX4_followLeading_23 : decode cX4_followLeading 23 = .ok (.iload 4, 2) := by decide +kernel
theorem dX4_followLeading_25 : decode cX4_followLeading 25 = .ok (.bipush (-9), 2) := by decide +kernel
theorem dX4_followLeading_27 : decode cX4_followLeading 27 = .ok (.if_icmp .ne 4, 3) := by decide +kernel
theorem dX4_followLeading_30 : decode cX4_followLeading 30 = .ok (.return_, 1) := by decide +kernel
theorem dX4_followLeading_31 : decode cX4_followLeading 31 = .ok (.aload_n 0, 1) := by decide +kernel
theorem dX4_followLeading_32 : decode cX4_followLeading 32 = .ok (.getfield 18, 3) := by decide +kernel
theorem dX4_followLeading_35 : decode cX4_followLeading 35 = .ok (.iload_n 3, 1) := by decide +kernel
theorem dX4_followLeading_36 : decode cX4_followLeading 36 = .ok (.iload 4, 2) := by decide +kernel
theorem dX4_followLeading_38 : decode cX4_followLeading 38 = .ok (.iastore, 1) := by decide +kernel
theorem dX4_followLeading_39 : decode cX4_followLeading 39 = .ok (.aload_n 0, 1) := by decide +kernel
theorem dX4_followLeading_40 : decode cX4_followLeading 40 = .ok (.getfield 21, 3) := by decide +kernel
theorem dX4_followLeading_43 : decode cX4_followLeading 43 = .ok (.iload_n 3, 1) := by decide +kernel
theorem dX4_followLeading_44 : decode cX4_followLeading 44 = .ok (.aload_n 0, 1) := by decide +kernel
theorem dX4_followLeading_45 : decode cX4_followLeading 45 = .ok (.getfield 35, 3) := by decide +kernel
theorem dX4_followLeading_48 : decode cX4_followLeading 48 = .ok (.iload 4, 2) := by decide +kernel
theorem dX4_followLeading_50 : decode cX4_followLeading 50 = .ok (.iload_n 2, 1) := by decide +kernel
theorem dX4_followLeading_51 : decode cX4_followLeading 51 = .ok (.invokevirtual 48, 3) := by decide +kernel
theorem dX4_followLeading_54 : decode cX4_followLeading 54 = .ok (.iastore, 1) := by decide +kernel
theorem dX4_followLeading_55 : decode cX4_followLeading 55 = .ok (.aload_n 0, 1) := by decide +kernel
theorem dX4_followLeading_56 : decode cX4_followLeading 56 = .ok (.iload_n 3, 1) := by decide +kernel
theorem dX4_followLeading_57 : decode cX4_followLeading 57 = .ok (.iconst 1, 1) := by decide +kernel
theorem dX4_followLeading_58 : decode cX4_followLeading 58 = .ok (.iadd, 1) := by decide +kernel
theorem dX4_followLeading_59 : decode cX4_followLeading 59 = .ok (.putfield 64, 3) := by decide +kernel
theorem dX4_followLeading_62 : decode cX4_followLeading 62 = .ok (.iload_n 2, 1) := by decide +kernel
theorem dX4_followLeading_63 : decode cX4_followLeading 63 = .ok (.iconst 1, 1) := by decide +kernel
theorem dX4_followLeading_64 : decode cX4_followLeading 64 = .ok (.iload 4, 2) := by decide +kernel
theorem dX4_followLeading_66 : decode cX4_followLeading 66 = .ok (.ishl, 1) := by decide +kernel
theorem dX4_followLeading_67 : decode cX4_followLeading 67 = .ok (.ior, 1) := by decide +kernel
theorem dX4_followLeading_68 : decode cX4_followLeading 68 = .ok (.istore_n 2, 1) := by decide +kernel
theorem dX4_followLeading_69 : decode cX4_followLeading 69 = .ok (.iinc 3 1, 3) := by decide +kernel
theorem dX4_followLeading_72 : decode cX4_followLeading 72 = .ok (.goto (-68), 3) := by decide +kernel
theorem dX4_followLeading_75 : decode cX4_followLeading 75 = .ok (.return_, 1) := by decide +kernel
set_option maxHeartbeats 4000000 in
set_option maxRecDepth 100000 in
theorem c_X4_followLeading {l : Launch} {X : En} (g : Nat) (x1 : Int32) (M : Mem) (M9 : Mem) (hf : fn_X4_followLeading g x1 M = some M9) : Cn l X yX4_followLeading cX4_followLeading 5 none 3 70 [.ref (X.ad 14), .int x1] M (Qv X M9) := by
  refine Met.ofW (cc := cX4_followLeading) (maxL := 5) (ret := none) (by decide) rfl ?_
  intro p e s m args below meth c s₁ B hml hv
  obtain ⟨rfl, hP, hk⟩ := hv
  have hx := B.exec
  have hb := B.bytes
  have hr := B.returns
  have hlocks := B.notSynchronized
  have hts : ∀ w ∈ lw_u, w.before ([.ref (X.ad 14), .int x1] : List Value).toArray s = true := fun w hw => atoms_spec (ws := Cond.code yX4_followLeading cX4_followLeading 5 none :: lw_u) B.pre w (List.mem_cons_of_mem _ hw)
  have hown : s.vm.findClass RX4 = some m.cls := findClass_of_methodNamed B.named
  have hZ : Fx p c m s ([.ref (X.ad 14), .int x1] : List Value).toArray X cX4_followLeading 5 RX4 := ⟨hx, hb, hml, hts, hown, hk⟩
  have hS : va_S X.A s.heap s.heap [] := va_S.rf
  have hl := lv_entry ([.ref (X.ad 14), .int x1]) (n := 5) (Nat.le_of_ble_eq_true rfl)
  rw [lg_entry_eq]
  generalize (lg_sl ([.ref (X.ad 14), .int x1]) ++ List.replicate (5 - (lg_sl ([.ref (X.ad 14), .int x1])).length) Slot.unset).toArray = ls at hl ⊢
  have hl : lv_has ls 5 [(0, .ref (X.ad 14)), (1, .int x1)] := hl
  show WW p l e 3 70 s m [.ref (X.ad 14), .int x1] below meth c X (Qv X M9) s.heap [] 0 ls []
  have hP : wd X M s.heap := hP
  unfold fn_X4_followLeading at hf
  have key : ∀ (H : Heap) (locs : List Loc), wd X M H → va_S X.A s.heap H locs → WW p l e 3 70 s m [.ref (X.ad 14), .int x1] below meth c X (Qv X M9) H locs 0 ls [] := by
    intro H locs hP hS
    refine lv_iconst (v := (0 : Int32)) hx hb dX4_followLeading_0 (by decide) ?_
    refine lv_istore_n (lv' := [(2, .int (0 : Int32)), (0, .ref (X.ad 14)), (1, .int x1)]) hx hb dX4_followLeading_1 rfl hl (by decide) rfl (fun ls hl => ?_)
    refine lv_iconst (v := (0 : Int32)) hx hb dX4_followLeading_2 (by decide) ?_
    refine lv_istore_n (lv' := [(3, .int (0 : Int32)), (2, .int (0 : Int32)), (0, .ref (X.ad 14)), (1, .int x1)]) hx hb dX4_followLeading_3 rfl hl (by decide) rfl (fun ls hl => ?_)
    obtain ⟨o4, ho4, hf⟩ := b_d hf
    refine lp_rule (b := bd_X4_followLeading_4 g x1) (P := fun w : Int32 × Int32 × Mem => ∀ (H : Heap) (locs : List Loc) (ls : Array Slot), wd X w.2.2 H → va_S X.A s.heap H locs → lv_has ls 5 [(3, .int w.2.1), (2, .int w.1), (0, .ref (X.ad 14)), (1, .int x1)] → WW p l e 3 70 s m [.ref (X.ad 14), .int x1] below meth c X (Qv X M9) H locs 4 ls []) (K := fun o => (∀ (M_4 : Mem), o = .inl M_4 → ∀ (H : Heap) (locs : List Loc) (ls : Array Slot), wd X M_4 H → va_S X.A s.heap H locs → lv_has ls 5 [] → WW p l e 3 70 s m [.ref (X.ad 14), .int x1] below meth c X (Qv X M9) H locs 75 ls []) ∧ (∀ rr : Mem, o = .inr rr → rr = M9)) ?_ g ((0 : Int32), (0 : Int32), M) o4 ho4 ?_ H locs ls hP hS (lv_sub hl [0, 1, 2, 3] rfl)
    · rintro ⟨v2_2, v3_1, M_3⟩ o hf hkc4 hke4 H locs ls hP hS hl
      have hf := u3_e hf
      refine lv_iload_n hx hb dX4_followLeading_4 rfl (lv_at hl 0 rfl) ?_
      refine lv_bipush (v := (8 : Int32)) hx hb dX4_followLeading_5 (by decide) ?_
      refine lv_icmp_ge (tgt := 75) hx hb dX4_followLeading_7 (by decide) (fun c_5 => ?_) (fun c_5 => ?_)
      · have hf := i_t c_5 hf
        exact (hke4 _ (Option.some.inj hf).symm).1 _ rfl H locs ls hP hS (lv_sub hl [] rfl)
      · have hf := i_f c_5 hf
        refine lv_iload_n hx hb dX4_followLeading_10 rfl (lv_at hl 1 rfl) ?_
        refine lv_iload_n hx hb dX4_followLeading_11 rfl (lv_at hl 3 rfl) ?_
        refine lv_icmp_eq (tgt := 75) hx hb dX4_followLeading_12 (by decide) (fun c_6 => ?_) (fun c_6 => ?_)
        · have hf := i_t c_6 hf
          exact (hke4 _ (Option.some.inj hf).symm).1 _ rfl H locs ls hP hS (lv_sub hl [] rfl)
        · have hf := i_f c_6 hf
          refine lv_aload_n hx hb dX4_followLeading_15 rfl (lv_at hl 2 rfl) ?_
          refine lv_iload_n hx hb dX4_followLeading_16 rfl (lv_at hl 3 rfl) ?_
          refine lv_iload_n hx hb dX4_followLeading_17 rfl (lv_at hl 1 rfl) ?_
          obtain ⟨r_7, h_r_7, hf⟩ := b_d hf
          refine k_X4_nextPlanned hZ hP hS hl.1 wd_3_62 ⟨Nat.le_of_ble_eq_true rfl, Nat.le_of_ble_eq_true rfl⟩ (Nat.le_of_ble_eq_true rfl) dX4_followLeading_18 ⟨Nat.zero_le _, Nat.zero_le _⟩ h_r_7 (fun H locs hP hS => ?_)
          refine lv_istore (lv' := [(4, .int r_7), (3, .int v3_1), (2, .int v2_2), (0, .ref (X.ad 14)), (1, .int x1)]) hx hb dX4_followLeading_21 hl (by decide) rfl (fun ls hl => ?_)
          refine lv_iload hx hb dX4_followLeading_23 (lv_at hl 0 rfl) ?_
          refine lv_bipush (v := (-9 : Int32)) hx hb dX4_followLeading_25 (by decide) ?_
          refine lv_icmp_ne (tgt := 31) hx hb dX4_followLeading_27 (by decide) (fun c_8 => ?_) (fun c_8 => ?_)
          · have hf := i_f c_8 hf
            refine lv_aload_n hx hb dX4_followLeading_31 rfl (lv_at hl 3 rfl) ?_
            refine gX4_2 hx hb hts hown hk hP wd_1_121 dX4_followLeading_32 ?_
            refine lv_iload_n hx hb dX4_followLeading_35 rfl (lv_at hl 1 rfl) ?_
            refine lv_iload hx hb dX4_followLeading_36 (lv_at hl 0 rfl) ?_
            obtain ⟨q_10, hf⟩ := g_if hf
            refine ast hx hb hk hP hS (by decide) (fun _ => rfl) q_10 dX4_followLeading_38 (fun H locs M_9 e_M_9 hP hS => ?_)
            have hf := b_v hf e_M_9
            refine lv_aload_n hx hb dX4_followLeading_39 rfl (lv_at hl 3 rfl) ?_
            refine gX4_3 hx hb hts hown hk hP wd_1_123 dX4_followLeading_40 ?_
            refine lv_iload_n hx hb dX4_followLeading_43 rfl (lv_at hl 1 rfl) ?_
            refine lv_aload_n hx hb dX4_followLeading_44 rfl (lv_at hl 3 rfl) ?_
            refine gX4_5 hx hb hts hown hk hP wd_1_127 dX4_followLeading_45 ?_
            refine lv_iload hx hb dX4_followLeading_48 (lv_at hl 0 rfl) ?_
            refine lv_iload_n hx hb dX4_followLeading_50 rfl (lv_at hl 2 rfl) ?_
            obtain ⟨r_11, h_r_11, hf⟩ := b_d hf
            refine k_X5_firstWay hZ hP hS hl.1 wd_3_38 ⟨Nat.le_of_ble_eq_true rfl, Nat.le_of_ble_eq_true rfl⟩ (Nat.le_of_ble_eq_true rfl) dX4_followLeading_51 ⟨Nat.zero_le _, Nat.zero_le _⟩ isR_9 h_r_11 (fun H locs hP hS => ?_)
            obtain ⟨q_13, hf⟩ := g_if hf
            refine ast hx hb hk hP hS (by decide) (fun _ => rfl) q_13 dX4_followLeading_54 (fun H locs M_12 e_M_12 hP hS => ?_)
            have hf := b_v hf e_M_12
            refine lv_aload_n hx hb dX4_followLeading_55 rfl (lv_at hl 3 rfl) ?_
            refine lv_iload_n hx hb dX4_followLeading_56 rfl (lv_at hl 1 rfl) ?_
            refine lv_iconst (v := (1 : Int32)) hx hb dX4_followLeading_57 (by decide) ?_
            refine lv_iadd hx hb dX4_followLeading_58 ?_
            refine pX4_4 hx hb hts hown hk hP hS wd_1_125 dX4_followLeading_59 (fun H locs M_14 e_M_14 hP hS => ?_)
            have hf := b_v hf e_M_14
            refine lv_iload_n hx hb dX4_followLeading_62 rfl (lv_at hl 2 rfl) ?_
            refine lv_iconst (v := (1 : Int32)) hx hb dX4_followLeading_63 (by decide) ?_
            refine lv_iload hx hb dX4_followLeading_64 (lv_at hl 0 rfl) ?_
            refine rw_ishl hx hb dX4_followLeading_66 ?_
            refine lv_ior hx hb dX4_followLeading_67 ?_
            refine lv_topi (fun v2_15 e_v2_15 => ?_)
            have hf := b_v hf e_v2_15
            refine lv_istore_n (lv' := [(2, .int v2_15), (4, .int r_7), (3, .int v3_1), (0, .ref (X.ad 14)), (1, .int x1)]) hx hb dX4_followLeading_68 rfl hl (by decide) rfl (fun ls hl => ?_)
            refine lv_iinc (v := v3_1 + (1 : Int32)) (lv' := [(3, .int (v3_1 + (1 : Int32))), (2, .int v2_15), (4, .int r_7), (0, .ref (X.ad 14)), (1, .int x1)]) hx hb dX4_followLeading_69 hl (k := 2) rfl rfl (by decide) rfl (fun ls hl => ?_)
            refine lv_goto (tgt := 4) hx hb dX4_followLeading_72 (by decide) ?_
            exact hkc4 _ (Option.some.inj hf).symm H locs ls hP hS (lv_sub hl [0, 1, 3, 4] rfl)
          · have hf := i_t c_8 hf
            have hf := (hke4 _ (Option.some.inj hf).symm).2 _ rfl
            rw [hf] at hP
            exact ret_v hx hb hr hlocks hP hS dX4_followLeading_30
    · refine ⟨?_, ?_⟩
      · intro M_4 e H locs ls hP hS hl
        subst o4
        have hf := el_l hf
        have hf := u1_e hf
        have hf := Option.some.inj hf
        rw [hf] at hP
        exact ret_v hx hb hr hlocks hP hS dX4_followLeading_75
      · intro rr e
        subst o4
        have hf := el_r hf
        exact Option.some.inj hf
  exact key s.heap [] hP hS
theorem hd_X4_followLeading : Hd yX4_followLeading 1 := by decide +kernel
theorem k_X4_followLeading {p : Program} {l : Launch} {e : Env} {R : Room} {s : State} {m : MethodId} {args : Array Value} {below : List Frame} {meth : Method} {c : Code} {H : Heap} {locs : List Loc} {cells slots : Nat} {Q : State → Prop} {cc : ByteArray} {nL pc index : Nat} {ls : Array Slot} {rest : List Value} {X : En} {M : Mem} {H0 : Heap} {own : String} {g : Nat} {x1 : Int32} {M9 : Mem} (hZ : Fx p c m s args X cc nL own) (hP : wd X M H) (hS : va_S X.A H0 H locs) (hsz : ls.size = nL) (hlk : Cond.methodLink own index yX4_followLeading ∈ lw_u) (hR : 3 + 1 ≤ R.frames ∧ 8 + (5 + 11) + 70 ≤ R.locals) (hW : (rest.map fun v => v.category).sum ≤ 8) (hdg : decode cc pc = .ok (.invokevirtual index, 3)) (hcs : cells ≤ R.cells ∧ slots ≤ R.slots) (hf : fn_X4_followLeading g x1 M = some M9)
    (kk : ∀ (H1 : Heap) (locs1 : List Loc), wd X M9 H1 → va_S X.A H0 H1 locs1 → W p l e R s m args below meth c H1 locs1 cells slots Q (F0 m (pc + 3) ls rest)) : W p l e R s m args below meth c H locs cells slots Q (F0 m pc ls (.int x1 :: .ref (X.ad 14) :: rest)) :=
  cal_v (runV (As := [.int x1]) (rest := rest) hZ.1 hZ.2.1 hZ.2.2.1 hZ.2.2.2.1 hZ.2.2.2.2.1 hZ.2.2.2.2.2 hP (c_X4_followLeading g x1 M M9 hf) wd_3_70 wd_3_69 wd_p_21 wd_1_5 hd_X4_followLeading (by decide) rfl rfl rfl hlk hR hsz rfl hW hdg hcs) hS kk
/-! FrameRaiser$Planner.plan -/
def fn_X4_plan (g : Nat) (x1 : Int32) (M : Mem) : Option (Mem) :=
  if x1 = (M 14 8) then
    (some M)
  else
    (if x1 < 0 then
      (some M)
    else
      (if x1 < (256 : Int32) then
        (bv (st M 14 8 x1) fun M_4 =>
        bv (st M_4 14 4 (0 : Int32)) fun M_5 =>
        if inb x1 256 then
        if (M_5 15 (ix x1)) ≤ 0 then
          (some M_5)
        else
          ((fn_X4_markLeading g x1 M_5).bind fun M_8 =>
          (fn_X4_followLeading g x1 M_8).bind fun M_9 =>
          some M_9)
        else none)
      else
        (some M)))
theorem dX4_plan_0 : decode cX4_plan 0 = .ok (.iload_n 1, 1) := by decide +kernel
theorem dX4_plan_1 : decode cX4_plan 1 = .ok (.aload_n 0, 1) := by decide +kernel
theorem dX4_plan_2 : decode cX4_plan 2 = .ok (.getfield 31, 3) := by decide +kernel
theorem dX4_plan_5 : decode cX4_plan 5 = .ok (.if_icmp .eq 14, 3) := by decide +kernel
theorem dX4_plan_8 : decode cX4_plan 8 = .ok (.iload_n 1, 1) := by decide +kernel
theorem dX4_plan_9 : decode cX4_plan 9 = .ok (.ifCond .lt 10, 3) := by decide +kernel
theorem dX4_plan_12 : decode cX4_plan 12 = .ok (.iload_n 1, 1) := by decide +kernel
theorem dX4_plan_13 : decode cX4_plan 13 = .ok (.sipush 256, 3) := by decide +kernel
theorem dX4_plan_16 : decode cX4_plan 16 = .ok (.if_icmp .lt 4, 3) := by decide +kernel
theorem dX4_plan_19 : decode cX4_plan 19 = .ok (.return_, 1) := by decide +kernel
theorem dX4_plan_20 : decode cX4_plan 20 = .ok (.aload_n 0, 1) := by decide +kernel
theorem dX4_plan_21 : decode cX4_plan 21 = .ok (.iload_n 1, 1) := by decide +kernel
theorem dX4_plan_22 : decode cX4_plan 22 = .ok (.putfield 31, 3) := by decide +kernel
theorem dX4_plan_25 : decode cX4_plan 25 = .ok (.aload_n 0, 1) := by decide +kernel
theorem dX4_plan_26 : decode cX4_plan 26 = .ok (.iconst 0, 1) := by decide +kernel
theorem dX4_plan_27 : decode cX4_plan 27 = .ok (.putfield 64, 3) := by decide +kernel
theorem dX4_plan_30 : decode cX4_plan 30 = .ok (.aload_n 0, 1) := by decide +kernel
theorem dX4_plan_31 : decode cX4_plan 31 = .ok (.getfield 9, 3) := by decide +kernel
theorem dX4_plan_34 : decode cX4_plan 34 = .ok (.iload_n 1, 1) := by decide +kernel
theorem dX4_plan_35 : decode cX4_plan 35 = .ok (.iaload, 1) := by decide +kernel
theorem dX4_plan_36 : decode cX4_plan 36 = .ok (.ifCond .le 13, 3) := by decide +kernel
theorem dX4_plan_39 : decode cX4_plan 39 = .ok (.aload_n 0, 1) := by decide +kernel
theorem dX4_plan_40 : decode cX4_plan 40 = .ok (.iload_n 1, 1) := by decide +kernel
theorem dX4_plan_41 : decode cX4_plan 41 = .ok (.invokevirtual 67, 3) := by decide +kernel
theorem dX4_plan_44 : decode cX4_plan 44 = .ok (.aload_n 0, 1) := by decide +kernel
theorem dX4_plan_45 : decode cX4_plan 45 = .ok (.iload_n 1, 1) := by decide +kernel
theorem dX4_plan_46 : decode cX4_plan 46 = .ok (.invokevirtual 70, 3) := by decide +kernel
theorem dX4_plan_49 : decode cX4_plan 49 = .ok (.return_, 1) := by decide +kernel
set_option maxHeartbeats 4000000 in
set_option maxRecDepth 100000 in
theorem c_X4_plan {l : Launch} {X : En} (g : Nat) (x1 : Int32) (M : Mem) (M9 : Mem) (hf : fn_X4_plan g x1 M = some M9) : Cn l X yX4_plan cX4_plan 2 none 4 94 [.ref (X.ad 14), .int x1] M (Qv X M9) := by
  refine Met.ofW (cc := cX4_plan) (maxL := 2) (ret := none) (by decide) rfl ?_
  intro p e s m args below meth c s₁ B hml hv
  obtain ⟨rfl, hP, hk⟩ := hv
  have hx := B.exec
  have hb := B.bytes
  have hr := B.returns
  have hlocks := B.notSynchronized
  have hts : ∀ w ∈ lw_u, w.before ([.ref (X.ad 14), .int x1] : List Value).toArray s = true := fun w hw => atoms_spec (ws := Cond.code yX4_plan cX4_plan 2 none :: lw_u) B.pre w (List.mem_cons_of_mem _ hw)
  have hown : s.vm.findClass RX4 = some m.cls := findClass_of_methodNamed B.named
  have hZ : Fx p c m s ([.ref (X.ad 14), .int x1] : List Value).toArray X cX4_plan 2 RX4 := ⟨hx, hb, hml, hts, hown, hk⟩
  have hS : va_S X.A s.heap s.heap [] := va_S.rf
  have hl := lv_entry ([.ref (X.ad 14), .int x1]) (n := 2) (Nat.le_of_ble_eq_true rfl)
  rw [lg_entry_eq]
  generalize (lg_sl ([.ref (X.ad 14), .int x1]) ++ List.replicate (2 - (lg_sl ([.ref (X.ad 14), .int x1])).length) Slot.unset).toArray = ls at hl ⊢
  have hl : lv_has ls 2 [(0, .ref (X.ad 14)), (1, .int x1)] := hl
  show WW p l e 4 94 s m [.ref (X.ad 14), .int x1] below meth c X (Qv X M9) s.heap [] 0 ls []
  have hP : wd X M s.heap := hP
  unfold fn_X4_plan at hf
  have key : ∀ (H : Heap) (locs : List Loc), wd X M H → va_S X.A s.heap H locs → WW p l e 4 94 s m [.ref (X.ad 14), .int x1] below meth c X (Qv X M9) H locs 0 ls [] := by
    intro H locs hP hS
    refine lv_iload_n hx hb dX4_plan_0 rfl (lv_at hl 1 rfl) ?_
    refine lv_aload_n hx hb dX4_plan_1 rfl (lv_at hl 0 rfl) ?_
    refine gX4_8 hx hb hts hown hk hP wd_1_130 dX4_plan_2 ?_
    refine lv_icmp_eq (tgt := 19) hx hb dX4_plan_5 (by decide) (fun c_1 => ?_) (fun c_1 => ?_)
    · have hf := i_t c_1 hf
      have hf := Option.some.inj hf
      rw [hf] at hP
      exact ret_v hx hb hr hlocks hP hS dX4_plan_19
    · have hf := i_f c_1 hf
      refine lv_iload_n hx hb dX4_plan_8 rfl (lv_at hl 1 rfl) ?_
      refine lv_if_lt (tgt := 19) hx hb dX4_plan_9 (by decide) (fun c_2 => ?_) (fun c_2 => ?_)
      · have hf := i_t c_2 hf
        have hf := Option.some.inj hf
        rw [hf] at hP
        exact ret_v hx hb hr hlocks hP hS dX4_plan_19
      · have hf := i_f c_2 hf
        refine lv_iload_n hx hb dX4_plan_12 rfl (lv_at hl 1 rfl) ?_
        refine lv_sipush (v := (256 : Int32)) hx hb dX4_plan_13 (by decide) ?_
        refine lv_icmp_lt (tgt := 20) hx hb dX4_plan_16 (by decide) (fun c_3 => ?_) (fun c_3 => ?_)
        · have hf := i_t c_3 hf
          refine lv_aload_n hx hb dX4_plan_20 rfl (lv_at hl 0 rfl) ?_
          refine lv_iload_n hx hb dX4_plan_21 rfl (lv_at hl 1 rfl) ?_
          refine pX4_8 hx hb hts hown hk hP hS wd_1_130 dX4_plan_22 (fun H locs M_4 e_M_4 hP hS => ?_)
          have hf := b_v hf e_M_4
          refine lv_aload_n hx hb dX4_plan_25 rfl (lv_at hl 0 rfl) ?_
          refine lv_iconst (v := (0 : Int32)) hx hb dX4_plan_26 (by decide) ?_
          refine pX4_4 hx hb hts hown hk hP hS wd_1_125 dX4_plan_27 (fun H locs M_5 e_M_5 hP hS => ?_)
          have hf := b_v hf e_M_5
          refine lv_aload_n hx hb dX4_plan_30 rfl (lv_at hl 0 rfl) ?_
          refine gX4_0 hx hb hts hown hk hP wd_1_117 dX4_plan_31 ?_
          refine lv_iload_n hx hb dX4_plan_34 rfl (lv_at hl 1 rfl) ?_
          obtain ⟨q_6, hf⟩ := g_if hf
          refine ald hx hb hk hP (by decide) rfl q_6 dX4_plan_35 ?_
          refine lv_if_le (tgt := 49) hx hb dX4_plan_36 (by decide) (fun c_7 => ?_) (fun c_7 => ?_)
          · have hf := i_t c_7 hf
            have hf := Option.some.inj hf
            rw [hf] at hP
            exact ret_v hx hb hr hlocks hP hS dX4_plan_49
          · have hf := i_f c_7 hf
            refine lv_aload_n hx hb dX4_plan_39 rfl (lv_at hl 0 rfl) ?_
            refine lv_iload_n hx hb dX4_plan_40 rfl (lv_at hl 1 rfl) ?_
            obtain ⟨M_8, h_M_8, hf⟩ := b_d hf
            refine k_X4_markLeading hZ hP hS hl.1 wd_3_58 ⟨Nat.le_of_ble_eq_true rfl, Nat.le_of_ble_eq_true rfl⟩ (Nat.le_of_ble_eq_true rfl) dX4_plan_41 ⟨Nat.zero_le _, Nat.zero_le _⟩ h_M_8 (fun H locs hP hS => ?_)
            refine lv_aload_n hx hb dX4_plan_44 rfl (lv_at hl 0 rfl) ?_
            refine lv_iload_n hx hb dX4_plan_45 rfl (lv_at hl 1 rfl) ?_
            obtain ⟨M_9, h_M_9, hf⟩ := b_d hf
            refine k_X4_followLeading hZ hP hS hl.1 wd_3_67 ⟨Nat.le_of_ble_eq_true rfl, Nat.le_of_ble_eq_true rfl⟩ (Nat.le_of_ble_eq_true rfl) dX4_plan_46 ⟨Nat.zero_le _, Nat.zero_le _⟩ h_M_9 (fun H locs hP hS => ?_)
            have hf := Option.some.inj hf
            rw [hf] at hP
            exact ret_v hx hb hr hlocks hP hS dX4_plan_49
        · have hf := i_f c_3 hf
          have hf := Option.some.inj hf
          rw [hf] at hP
          exact ret_v hx hb hr hlocks hP hS dX4_plan_19
  exact key s.heap [] hP hS
theorem hd_X4_plan : Hd yX4_plan 1 := by decide +kernel
theorem k_X4_plan {p : Program} {l : Launch} {e : Env} {R : Room} {s : State} {m : MethodId} {args : Array Value} {below : List Frame} {meth : Method} {c : Code} {H : Heap} {locs : List Loc} {cells slots : Nat} {Q : State → Prop} {cc : ByteArray} {nL pc index : Nat} {ls : Array Slot} {rest : List Value} {X : En} {M : Mem} {H0 : Heap} {own : String} {g : Nat} {x1 : Int32} {M9 : Mem} (hZ : Fx p c m s args X cc nL own) (hP : wd X M H) (hS : va_S X.A H0 H locs) (hsz : ls.size = nL) (hlk : Cond.methodLink own index yX4_plan ∈ lw_u) (hR : 4 + 1 ≤ R.frames ∧ 8 + (2 + 11) + 94 ≤ R.locals) (hW : (rest.map fun v => v.category).sum ≤ 8) (hdg : decode cc pc = .ok (.invokevirtual index, 3)) (hcs : cells ≤ R.cells ∧ slots ≤ R.slots) (hf : fn_X4_plan g x1 M = some M9)
    (kk : ∀ (H1 : Heap) (locs1 : List Loc), wd X M9 H1 → va_S X.A H0 H1 locs1 → W p l e R s m args below meth c H1 locs1 cells slots Q (F0 m (pc + 3) ls rest)) : W p l e R s m args below meth c H locs cells slots Q (F0 m pc ls (.int x1 :: .ref (X.ad 14) :: rest)) :=
  cal_v (runV (As := [.int x1]) (rest := rest) hZ.1 hZ.2.1 hZ.2.2.1 hZ.2.2.2.1 hZ.2.2.2.2.1 hZ.2.2.2.2.2 hP (c_X4_plan g x1 M M9 hf) wd_3_57 wd_3_55 wd_3_56 wd_1_5 hd_X4_plan (by decide) rfl rfl rfl hlk hR hsz rfl hW hdg hcs) hS kk
/-! FrameRaiser.planned -/
def fn_X7_planned (g : Nat) (x1 : Int32) (x2 : Int32) (x3 : Int32) (M : Mem) : Option (Int32 × Mem) :=
  if (fn_X7_isSet x1 M) = 0 then
    (some ((-1 : Int32), M))
  else
    (if 0 ≤ x2 then
      ((fn_X7_knownPlanner g M).bind fun M_3 =>
      (fn_X4_plan g x1 M_3).bind fun M_4 =>
      if (M_4 14 4) ≤ x2 then
        (some ((-9 : Int32), M_4))
      else
        (if x2 < (8 : Int32) then
          (if x3 = 0 then
            (if inb x2 8 then
            some (M_4 17 (ix x2), M_4)
            else none)
          else
            (if inb x2 8 then
            some (M_4 18 (ix x2), M_4)
            else none))
        else
          (some ((-9 : Int32), M_4))))
    else
      (some ((-1 : Int32), M)))
theorem dX7_planned_0 : decode cX7_planned 0 = .ok (.aload_n 0, 1) := by decide +kernel
theorem dX7_planned_1 : decode cX7_planned 1 = .ok (.iload_n 1, 1) := by decide +kernel
theorem dX7_planned_2 : decode cX7_planned 2 = .ok (.invokevirtual 167, 3) := by decide +kernel
theorem dX7_planned_5 : decode cX7_planned 5 = .ok (.ifCond .eq 7, 3) := by decide +kernel
theorem dX7_planned_8 : decode cX7_planned 8 = .ok (.iload_n 2, 1) := by decide +kernel
theorem dX7_planned_9 : decode cX7_planned 9 = .ok (.ifCond .ge 5, 3) := by decide +kernel
theorem dX7_planned_12 : decode cX7_planned 12 = .ok (.iconst (-1), 1) := by decide +kernel
theorem dX7_planned_13 : decode cX7_planned 13 = .ok (.ireturn, 1) := by decide +kernel
theorem dX7_planned_14 : decode cX7_planned 14 = .ok (.aload_n 0, 1) := by decide +kernel
theorem dX7_planned_15 : decode cX7_planned 15 = .ok (.invokevirtual 187, 3) := by decide +kernel
theorem dX7_planned_18 : decode cX7_planned 18 = .ok (.astore 4, 2) := by decide +kernel
theorem dX7_planned_20 : decode cX7_planned 20 = .ok (.aload 4, 2) := by decide +kernel
theorem dX7_planned_22 : decode cX7_planned 22 = .ok (.iload_n 1, 1) := by decide +kernel
theorem dX7_planned_23 : decode cX7_planned 23 = .ok (.invokevirtual 197, 3) := by decide +kernel
theorem dX7_planned_26 : decode cX7_planned 26 = .ok (.iload_n 2, 1) := by decide +kernel
theorem dX7_planned_27 : decode cX7_planned 27 = .ok (.aload 4, 2) := by decide +kernel
theorem dX7_planned_29 : decode cX7_planned 29 = .ok (.getfield 200, 3) := by decide +kernel
theorem dX7_planned_32 : decode cX7_planned 32 = .ok (.if_icmp .ge 9, 3) := by decide +kernel
theorem dX7_planned_35 : decode cX7_planned 35 = .ok (.iload_n 2, 1) := by decide +kernel
theorem dX7_planned_36 : decode cX7_planned 36 = .ok (.bipush 8, 2) := by decide +kernel
theorem dX7_planned_38 : decode cX7_planned 38 = .ok (.if_icmp .lt 6, 3) := by decide +kernel
theorem dX7_planned_41 : decode cX7_planned 41 = .ok (.bipush (-9), 2) := by decide +kernel
theorem dX7_planned_43 : decode cX7_planned 43 = .ok (.ireturn, 1) := by decide +kernel
theorem dX7_planned_44 : decode cX7_planned 44 = .ok (.iload_n 3, 1) := by decide +kernel
theorem dX7_planned_45 : decode cX7_planned 45 = .ok (.ifCond .eq 13, 3) := by decide +kernel
theorem dX7_planned_48 : decode cX7_planned 48 = .ok (.aload 4, 2) := by decide +kernel
theorem dX7_planned_50 : decode cX7_planned 50 = .ok (.getfield 203, 3) := by decide +kernel
theorem dX7_planned_53 : decode cX7_planned 53 = .ok (.iload_n 2, 1) := by decide +kernel
theorem dX7_planned_54 : decode cX7_planned 54 = .ok (.iaload, 1) := by decide +kernel
theorem dX7_planned_55 : decode cX7_planned 55 = .ok (.goto 10, 3) := by decide +kernel
theorem dX7_planned_58 : decode cX7_planned 58 = .ok (.aload 4, 2) := by decide +kernel
theorem dX7_planned_60 : decode cX7_planned 60 = .ok (.getfield 206, 3) := by decide +kernel
theorem dX7_planned_63 : decode cX7_planned 63 = .ok (.iload_n 2, 1) := by decide +kernel
theorem dX7_planned_64 : decode cX7_planned 64 = .ok (.iaload, 1) := by decide +kernel
theorem dX7_planned_65 : decode cX7_planned 65 = .ok (.ireturn, 1) := by decide +kernel
set_option maxHeartbeats 4000000 in
set_option maxRecDepth 100000 in
theorem c_X7_planned {l : Launch} {X : En} (g : Nat) (x1 : Int32) (x2 : Int32) (x3 : Int32) (M : Mem) (r : Int32) (M9 : Mem) (hf : fn_X7_planned g x1 x2 x3 M = some (r, M9)) : Cn l X yX7_planned cX7_planned 5 (some .int) 5 116 [.ref (X.ad 0), .int x1, .int x2, .int x3] M (Qi X r M9) := by
  refine Met.ofW (cc := cX7_planned) (maxL := 5) (ret := (some .int)) (by decide) rfl ?_
  intro p e s m args below meth c s₁ B hml hv
  obtain ⟨rfl, hP, hk⟩ := hv
  have hx := B.exec
  have hb := B.bytes
  have hr := B.returns
  have hlocks := B.notSynchronized
  have hts : ∀ w ∈ lw_u, w.before ([.ref (X.ad 0), .int x1, .int x2, .int x3] : List Value).toArray s = true := fun w hw => atoms_spec (ws := Cond.code yX7_planned cX7_planned 5 (some .int) :: lw_u) B.pre w (List.mem_cons_of_mem _ hw)
  have hown : s.vm.findClass RX7 = some m.cls := findClass_of_methodNamed B.named
  have hZ : Fx p c m s ([.ref (X.ad 0), .int x1, .int x2, .int x3] : List Value).toArray X cX7_planned 5 RX7 := ⟨hx, hb, hml, hts, hown, hk⟩
  have hS : va_S X.A s.heap s.heap [] := va_S.rf
  have hl := lv_entry ([.ref (X.ad 0), .int x1, .int x2, .int x3]) (n := 5) (Nat.le_of_ble_eq_true rfl)
  rw [lg_entry_eq]
  generalize (lg_sl ([.ref (X.ad 0), .int x1, .int x2, .int x3]) ++ List.replicate (5 - (lg_sl ([.ref (X.ad 0), .int x1, .int x2, .int x3])).length) Slot.unset).toArray = ls at hl ⊢
  have hl : lv_has ls 5 [(0, .ref (X.ad 0)), (1, .int x1), (2, .int x2), (3, .int x3)] := hl
  show WW p l e 5 116 s m [.ref (X.ad 0), .int x1, .int x2, .int x3] below meth c X (Qi X r M9) s.heap [] 0 ls []
  have hP : wd X M s.heap := hP
  unfold fn_X7_planned at hf
  have key : ∀ (H : Heap) (locs : List Loc), wd X M H → va_S X.A s.heap H locs → WW p l e 5 116 s m [.ref (X.ad 0), .int x1, .int x2, .int x3] below meth c X (Qi X r M9) H locs 0 ls [] := by
    intro H locs hP hS
    refine lv_aload_n hx hb dX7_planned_0 rfl (lv_at hl 0 rfl) ?_
    refine lv_iload_n hx hb dX7_planned_1 rfl (lv_at hl 1 rfl) ?_
    refine k_X7_isSet hZ hP hS hl.1 wd_2_221 ⟨Nat.le_of_ble_eq_true rfl, Nat.le_of_ble_eq_true rfl⟩ (Nat.le_of_ble_eq_true rfl) dX7_planned_2 ⟨Nat.zero_le _, Nat.zero_le _⟩ (fun H locs hP hS => ?_)
    refine lv_if_eq (tgt := 12) hx hb dX7_planned_5 (by decide) (fun c_1 => ?_) (fun c_1 => ?_)
    · have hf := i_t c_1 hf
      refine lv_iconst (v := (-1 : Int32)) hx hb dX7_planned_12 (by decide) ?_
      have hf := Option.some.inj hf
      obtain ⟨e1, e2⟩ := Prod.mk.inj hf
      rw [e2] at hP
      exact ret_i hx hb hr hlocks hP hS e1 dX7_planned_13
    · have hf := i_f c_1 hf
      refine lv_iload_n hx hb dX7_planned_8 rfl (lv_at hl 2 rfl) ?_
      refine lv_if_ge (tgt := 14) hx hb dX7_planned_9 (by decide) (fun c_2 => ?_) (fun c_2 => ?_)
      · have hf := i_t c_2 hf
        refine lv_aload_n hx hb dX7_planned_14 rfl (lv_at hl 0 rfl) ?_
        obtain ⟨M_3, h_M_3, hf⟩ := b_d hf
        refine k_X7_knownPlanner hZ hP hS hl.1 wd_3_26 ⟨Nat.le_of_ble_eq_true rfl, Nat.le_of_ble_eq_true rfl⟩ (Nat.le_of_ble_eq_true rfl) dX7_planned_15 ⟨Nat.zero_le _, Nat.zero_le _⟩ h_M_3 (fun H locs hP hS => ?_)
        refine lv_astore (lv' := [(4, .ref (X.ad 14)), (0, .ref (X.ad 0)), (1, .int x1), (2, .int x2), (3, .int x3)]) hx hb dX7_planned_18 hl (by decide) rfl (fun ls hl => ?_)
        refine lv_aload hx hb dX7_planned_20 (lv_at hl 0 rfl) ?_
        refine lv_iload_n hx hb dX7_planned_22 rfl (lv_at hl 2 rfl) ?_
        obtain ⟨M_4, h_M_4, hf⟩ := b_d hf
        refine k_X4_plan hZ hP hS hl.1 wd_3_54 ⟨Nat.le_of_ble_eq_true rfl, Nat.le_of_ble_eq_true rfl⟩ (Nat.le_of_ble_eq_true rfl) dX7_planned_23 ⟨Nat.zero_le _, Nat.zero_le _⟩ h_M_4 (fun H locs hP hS => ?_)
        refine lv_iload_n hx hb dX7_planned_26 rfl (lv_at hl 3 rfl) ?_
        refine lv_aload hx hb dX7_planned_27 (lv_at hl 0 rfl) ?_
        refine gX4_4 hx hb hts hown hk hP wd_1_126 dX7_planned_29 ?_
        refine lv_icmp_ge (tgt := 41) hx hb dX7_planned_32 (by decide) (fun c_5 => ?_) (fun c_5 => ?_)
        · have hf := i_t c_5 hf
          refine lv_bipush (v := (-9 : Int32)) hx hb dX7_planned_41 (by decide) ?_
          have hf := Option.some.inj hf
          obtain ⟨e1, e2⟩ := Prod.mk.inj hf
          rw [e2] at hP
          exact ret_i hx hb hr hlocks hP hS e1 dX7_planned_43
        · have hf := i_f c_5 hf
          refine lv_iload_n hx hb dX7_planned_35 rfl (lv_at hl 3 rfl) ?_
          refine lv_bipush (v := (8 : Int32)) hx hb dX7_planned_36 (by decide) ?_
          refine lv_icmp_lt (tgt := 44) hx hb dX7_planned_38 (by decide) (fun c_6 => ?_) (fun c_6 => ?_)
          · have hf := i_t c_6 hf
            refine lv_iload_n hx hb dX7_planned_44 rfl (lv_at hl 4 rfl) ?_
            refine lv_if_eq (tgt := 58) hx hb dX7_planned_45 (by decide) (fun c_7 => ?_) (fun c_7 => ?_)
            · have hf := i_t c_7 hf
              refine lv_aload hx hb dX7_planned_58 (lv_at hl 0 rfl) ?_
              refine gX4_2 hx hb hts hown hk hP wd_1_122 dX7_planned_60 ?_
              refine lv_iload_n hx hb dX7_planned_63 rfl (lv_at hl 3 rfl) ?_
              obtain ⟨q_8, hf⟩ := g_if hf
              refine ald hx hb hk hP (by decide) rfl q_8 dX7_planned_64 ?_
              have hf := Option.some.inj hf
              obtain ⟨e1, e2⟩ := Prod.mk.inj hf
              rw [e2] at hP
              exact ret_i hx hb hr hlocks hP hS e1 dX7_planned_65
            · have hf := i_f c_7 hf
              refine lv_aload hx hb dX7_planned_48 (lv_at hl 0 rfl) ?_
              refine gX4_3 hx hb hts hown hk hP wd_1_124 dX7_planned_50 ?_
              refine lv_iload_n hx hb dX7_planned_53 rfl (lv_at hl 3 rfl) ?_
              obtain ⟨q_9, hf⟩ := g_if hf
              refine ald hx hb hk hP (by decide) rfl q_9 dX7_planned_54 ?_
              refine lv_goto (tgt := 65) hx hb dX7_planned_55 (by decide) ?_
              have hf := Option.some.inj hf
              obtain ⟨e1, e2⟩ := Prod.mk.inj hf
              rw [e2] at hP
              exact ret_i hx hb hr hlocks hP hS e1 dX7_planned_65
          · have hf := i_f c_6 hf
            refine lv_bipush (v := (-9 : Int32)) hx hb dX7_planned_41 (by decide) ?_
            have hf := Option.some.inj hf
            obtain ⟨e1, e2⟩ := Prod.mk.inj hf
            rw [e2] at hP
            exact ret_i hx hb hr hlocks hP hS e1 dX7_planned_43
      · have hf := i_f c_2 hf
        refine lv_iconst (v := (-1 : Int32)) hx hb dX7_planned_12 (by decide) ?_
        have hf := Option.some.inj hf
        obtain ⟨e1, e2⟩ := Prod.mk.inj hf
        rw [e2] at hP
        exact ret_i hx hb hr hlocks hP hS e1 dX7_planned_13
  exact key s.heap [] hP hS
theorem hd_X7_planned : Hd yX7_planned 3 := by decide +kernel
theorem k_X7_planned {p : Program} {l : Launch} {e : Env} {R : Room} {s : State} {m : MethodId} {args : Array Value} {below : List Frame} {meth : Method} {c : Code} {H : Heap} {locs : List Loc} {cells slots : Nat} {Q : State → Prop} {cc : ByteArray} {nL pc index : Nat} {ls : Array Slot} {rest : List Value} {X : En} {M : Mem} {H0 : Heap} {own : String} {g : Nat} {x1 : Int32} {x2 : Int32} {x3 : Int32} {r : Int32} {M9 : Mem} (hZ : Fx p c m s args X cc nL own) (hP : wd X M H) (hS : va_S X.A H0 H locs) (hsz : ls.size = nL) (hlk : Cond.methodLink own index yX7_planned ∈ lw_u) (hR : 5 + 1 ≤ R.frames ∧ 8 + (5 + 11) + 116 ≤ R.locals) (hW : (rest.map fun v => v.category).sum ≤ 8) (hdg : decode cc pc = .ok (.invokevirtual index, 3)) (hcs : cells ≤ R.cells ∧ slots ≤ R.slots) (hf : fn_X7_planned g x1 x2 x3 M = some (r, M9))
    (kk : ∀ (H1 : Heap) (locs1 : List Loc), wd X M9 H1 → va_S X.A H0 H1 locs1 → W p l e R s m args below meth c H1 locs1 cells slots Q (F0 m (pc + 3) ls (.int r :: rest))) : W p l e R s m args below meth c H locs cells slots Q (F0 m pc ls (.int x3 :: .int x2 :: .int x1 :: .ref (X.ad 0) :: rest)) :=
  cal_i (runV (As := [.int x1, .int x2, .int x3]) (rest := rest) hZ.1 hZ.2.1 hZ.2.2.1 hZ.2.2.2.1 hZ.2.2.2.2.1 hZ.2.2.2.2.2 hP (c_X7_planned g x1 x2 x3 M r M9 hf) wd_3_53 wd_3_51 wd_3_52 wd_1_1 hd_X7_planned (by decide) rfl rfl rfl hlk hR hsz rfl hW hdg hcs) hS kk
/-! FrameRaiser$Relations.lockedOf -/
def bd_X5_lockedOf_15 (g : Nat) (k0 : Nat) (M : Mem) : (Int32 × Int32) → Option ((Int32 × Int32) ⊕ (Int32)) :=
  u2 fun v2_6 v4_5 =>
  if (M k0 5) ≤ v4_5 then
    (some (.inr v2_6))
  else
    (if (fn_X7_has v2_6 v4_5) = 0 then
      (some (.inl (v2_6, v4_5 + (1 : Int32))))
    else
      ((fn_X5_firstWay g k0 v4_5 v2_6 M).bind fun r_10 =>
      if r_10 = (-9 : Int32) then
        (some (.inl (v2_6, v4_5 + (1 : Int32))))
      else
        (bv (v2_6 ^^^ (sl (1 : Int32) v4_5)) fun v2_12 =>
        some (.inl (v2_12, v4_5 + (1 : Int32))))))
def bd_X5_lockedOf_4 (g : Nat) (k0 : Nat) (M : Mem) : (Int32 × Int32) → Option ((Int32 × Int32) ⊕ (Int32)) :=
  u2 fun v2_2 v3_1 =>
  if (M k0 5) ≤ v3_1 then
    (some (.inr v2_2))
  else
    ((lpN g (bd_X5_lockedOf_15 g k0 M) (v2_2, (0 : Int32))).bind (u1 fun v2_7 =>
      some (.inl (v2_7, v3_1 + (1 : Int32)))))
def fn_X5_lockedOf (g : Nat) (k0 : Nat) (x1 : Int32) (M : Mem) : Option (Int32) :=
  (lpN g (bd_X5_lockedOf_4 g k0 M) (x1, (0 : Int32))).bind (u1 fun v2_3 =>
    some v2_3)
theorem dX5_lockedOf_0 : decode cX5_lockedOf 0 = .ok (.iload_n 1, 1) := by decide +kernel
theorem dX5_lockedOf_1 : decode cX5_lockedOf 1 = .ok (.istore_n 2, 1) := by decide +kernel
theorem dX5_lockedOf_2 : decode cX5_lockedOf 2 = .ok (.iconst 0, 1) := by decide +kernel
theorem dX5_lockedOf_3 : decode cX5_lockedOf 3 = .ok (.istore_n 3, 1) := by decide +kernel
theorem dX5_lockedOf_4 : decode cX5_lockedOf 4 = .ok (.iload_n 3, 1) := by decide +kernel
theorem dX5_lockedOf_5 : decode cX5_lockedOf 5 = .ok (.aload_n 0, 1) := by decide +kernel
theorem dX5_lockedOf_6 : decode cX5_lockedOf 6 = .ok (.getfield 33, 3) := by decide +kernel
theorem dX5_lockedOf_9 : decode cX5_lockedOf 9 = .ok (.if_icmp .ge 55, 3) := by decide +kernel
theorem dX5_lockedOf_12 : decode cX5_lockedOf 12 = .ok (.iconst 0, 1) := by decide +kernel
theorem dX5_lockedOf_13 : decode cX5_lockedOf 13 = .ok (.istore 4, 2) := by decide +kernel
theorem dX5_lockedOf_15 : decode cX5_lockedOf 15 = .ok (.iload 4, 2) := by decide +kernel
theorem dX5_lockedOf_17 : decode cX5_lockedOf 17 = .ok (.aload_n 0, 1) := by decide +kernel
theorem dX5_lockedOf_18 : decode cX5_lockedOf 18 = .ok (.getfield 33, 3) := by decide +kernel
theorem dX5_lockedOf_21 : decode cX5_lockedOf 21 = .ok (.if_icmp .ge 37, 3) := by decide +kernel
theorem dX5_lockedOf_24 : decode cX5_lockedOf 24 = .ok (.iload_n 2, 1) := by decide +kernel
theorem dX5_lockedOf_25 : decode cX5_lockedOf 25 = .ok (.iload 4, 2) := by decide +kernel
theorem dX5_lockedOf_27 : decode cX5_lockedOf 27 = .ok (.invokestatic 64, 3) := by decide +kernel
theorem dX5_lockedOf_30 : decode cX5_lockedOf 30 = .ok (.ifCond .eq 22, 3) := by decide +kernel
theorem dX5_lockedOf_33 : decode cX5_lockedOf 33 = .ok (.aload_n 0, 1) := by decide +kernel
theorem dX5_lockedOf_34 : decode cX5_lockedOf 34 = .ok (.iload 4, 2) := by decide +kernel
theorem dX5_lockedOf_36 : decode cX5_lockedOf 36 = .ok (.iload_n 2, 1) := by decide +kernel
theorem dX5_lockedOf_37 : decode cX5_lockedOf 37 = .ok (.invokevirtual 68, 3) := by decide +kernel
theorem dX5_lockedOf_40 : decode cX5_lockedOf 40 = .ok (.bipush (-9), 2) := by decide +kernel
theorem dX5_lockedOf_42 : decode cX5_lockedOf 42 = .ok (.if_icmp .eq 10, 3) := by decide +kernel
theorem dX5_lockedOf_45 : decode cX5_lockedOf 45 = .ok (.iload_n 2, 1) := by decide +kernel
theorem dX5_lockedOf_46 : decode cX5_lockedOf 46 = .ok (.iconst 1, 1) := by decide +kernel
theorem dX5_lockedOf_47 : decode cX5_lockedOf 47 = .ok (.iload 4, 2) := by decide +kernel
theorem dX5_lockedOf_49 : decode cX5_lockedOf 49 = .ok (.ishl, 1) := by decide +kernel
theorem dX5_lockedOf_50 : decode cX5_lockedOf 50 = .ok (.ixor, 1) := by decide +kernel
theorem dX5_lockedOf_51 : decode cX5_lockedOf 51 = .ok (.istore_n 2, 1) := by decide +kernel
theorem dX5_lockedOf_52 : decode cX5_lockedOf 52 = .ok (.iinc 4 1, 3) := by decide +kernel
theorem dX5_lockedOf_55 : decode cX5_lockedOf 55 = .ok (.goto (-40), 3) := by decide +kernel
theorem dX5_lockedOf_58 : decode cX5_lockedOf 58 = .ok (.iinc 3 1, 3) := by decide +kernel
theorem dX5_lockedOf_61 : decode cX5_lockedOf 61 = .ok (.goto (-57), 3) := by decide +kernel
theorem dX5_lockedOf_64 : decode cX5_lockedOf 64 = .ok (.iload_n 2, 1) := by decide +kernel
theorem dX5_lockedOf_65 : decode cX5_lockedOf 65 = .ok (.ireturn, 1) := by decide +kernel
set_option maxHeartbeats 4000000 in
set_option maxRecDepth 100000 in
theorem c_X5_lockedOf {l : Launch} {X : En} (g : Nat) (k0 : Nat) (x1 : Int32) (M : Mem) (hk0 : isR k0) (r : Int32) (hf : fn_X5_lockedOf g k0 x1 M = some r) : Cn l X yX5_lockedOf cX5_lockedOf 5 (some .int) 2 46 [.ref (X.ad k0), .int x1] M (Qi X r M) := by
  refine Met.ofW (cc := cX5_lockedOf) (maxL := 5) (ret := (some .int)) (by decide) rfl ?_
  intro p e s m args below meth c s₁ B hml hv
  obtain ⟨rfl, hP, hk⟩ := hv
  have hx := B.exec
  have hb := B.bytes
  have hr := B.returns
  have hlocks := B.notSynchronized
  have hts : ∀ w ∈ lw_u, w.before ([.ref (X.ad k0), .int x1] : List Value).toArray s = true := fun w hw => atoms_spec (ws := Cond.code yX5_lockedOf cX5_lockedOf 5 (some .int) :: lw_u) B.pre w (List.mem_cons_of_mem _ hw)
  have hown : s.vm.findClass RX5 = some m.cls := findClass_of_methodNamed B.named
  have hZ : Fx p c m s ([.ref (X.ad k0), .int x1] : List Value).toArray X cX5_lockedOf 5 RX5 := ⟨hx, hb, hml, hts, hown, hk⟩
  have hS : va_S X.A s.heap s.heap [] := va_S.rf
  have hl := lv_entry ([.ref (X.ad k0), .int x1]) (n := 5) (Nat.le_of_ble_eq_true rfl)
  rw [lg_entry_eq]
  generalize (lg_sl ([.ref (X.ad k0), .int x1]) ++ List.replicate (5 - (lg_sl ([.ref (X.ad k0), .int x1])).length) Slot.unset).toArray = ls at hl ⊢
  have hl : lv_has ls 5 [(0, .ref (X.ad k0)), (1, .int x1)] := hl
  show WW p l e 2 46 s m [.ref (X.ad k0), .int x1] below meth c X (Qi X r M) s.heap [] 0 ls []
  have hP : wd X M s.heap := hP
  unfold fn_X5_lockedOf at hf
  have key : ∀ (H : Heap) (locs : List Loc), wd X M H → va_S X.A s.heap H locs → WW p l e 2 46 s m [.ref (X.ad k0), .int x1] below meth c X (Qi X r M) H locs 0 ls [] := by
    intro H locs hP hS
    refine lv_iload_n hx hb dX5_lockedOf_0 rfl (lv_at hl 1 rfl) ?_
    refine lv_istore_n (lv' := [(2, .int x1), (0, .ref (X.ad k0)), (1, .int x1)]) hx hb dX5_lockedOf_1 rfl hl (by decide) rfl (fun ls hl => ?_)
    refine lv_iconst (v := (0 : Int32)) hx hb dX5_lockedOf_2 (by decide) ?_
    refine lv_istore_n (lv' := [(3, .int (0 : Int32)), (2, .int x1), (0, .ref (X.ad k0)), (1, .int x1)]) hx hb dX5_lockedOf_3 rfl hl (by decide) rfl (fun ls hl => ?_)
    obtain ⟨o4, ho4, hf⟩ := b_d hf
    refine lp_rule (b := bd_X5_lockedOf_4 g k0 M) (P := fun w : Int32 × Int32 => ∀ (H : Heap) (locs : List Loc) (ls : Array Slot), wd X M H → va_S X.A s.heap H locs → lv_has ls 5 [(3, .int w.2), (2, .int w.1), (0, .ref (X.ad k0))] → WW p l e 2 46 s m [.ref (X.ad k0), .int x1] below meth c X (Qi X r M) H locs 4 ls []) (K := fun o => ∀ (v2_3 : Int32), o = v2_3 → ∀ (H : Heap) (locs : List Loc) (ls : Array Slot), wd X M H → va_S X.A s.heap H locs → lv_has ls 5 [(2, .int v2_3)] → WW p l e 2 46 s m [.ref (X.ad k0), .int x1] below meth c X (Qi X r M) H locs 64 ls []) ?_ g (x1, (0 : Int32)) o4 ho4 ?_ H locs ls hP hS (lv_sub hl [0, 1, 2] rfl)
    · rintro ⟨v2_2, v3_1⟩ o hf hkc4 hke4 H locs ls hP hS hl
      have hf := u2_e hf
      refine lv_iload_n hx hb dX5_lockedOf_4 rfl (lv_at hl 0 rfl) ?_
      refine lv_aload_n hx hb dX5_lockedOf_5 rfl (lv_at hl 2 rfl) ?_
      refine gX5_5 hx hb hts hown hk hP hk0 wd_1_96 dX5_lockedOf_6 ?_
      refine lv_icmp_ge (tgt := 64) hx hb dX5_lockedOf_9 (by decide) (fun c_4 => ?_) (fun c_4 => ?_)
      · have hf := i_t c_4 hf
        exact hke4 _ (Option.some.inj hf).symm _ rfl H locs ls hP hS (lv_sub hl [1] rfl)
      · have hf := i_f c_4 hf
        refine lv_iconst (v := (0 : Int32)) hx hb dX5_lockedOf_12 (by decide) ?_
        refine lv_istore (lv' := [(4, .int (0 : Int32)), (3, .int v3_1), (2, .int v2_2), (0, .ref (X.ad k0))]) hx hb dX5_lockedOf_13 hl (by decide) rfl (fun ls hl => ?_)
        obtain ⟨o15, ho15, hf⟩ := b_d hf
        refine lp_rule (b := bd_X5_lockedOf_15 g k0 M) (P := fun w : Int32 × Int32 => ∀ (H : Heap) (locs : List Loc) (ls : Array Slot), wd X M H → va_S X.A s.heap H locs → lv_has ls 5 [(4, .int w.2), (3, .int v3_1), (2, .int w.1), (0, .ref (X.ad k0))] → WW p l e 2 46 s m [.ref (X.ad k0), .int x1] below meth c X (Qi X r M) H locs 15 ls []) (K := fun o => ∀ (v2_7 : Int32), o = v2_7 → ∀ (H : Heap) (locs : List Loc) (ls : Array Slot), wd X M H → va_S X.A s.heap H locs → lv_has ls 5 [(3, .int v3_1), (2, .int v2_7), (0, .ref (X.ad k0))] → WW p l e 2 46 s m [.ref (X.ad k0), .int x1] below meth c X (Qi X r M) H locs 58 ls []) ?_ g (v2_2, (0 : Int32)) o15 ho15 ?_ H locs ls hP hS (lv_sub hl [0, 1, 2, 3] rfl)
        · rintro ⟨v2_6, v4_5⟩ o hf hkc15 hke15 H locs ls hP hS hl
          have hf := u2_e hf
          refine lv_iload hx hb dX5_lockedOf_15 (lv_at hl 0 rfl) ?_
          refine lv_aload_n hx hb dX5_lockedOf_17 rfl (lv_at hl 3 rfl) ?_
          refine gX5_5 hx hb hts hown hk hP hk0 wd_1_96 dX5_lockedOf_18 ?_
          refine lv_icmp_ge (tgt := 58) hx hb dX5_lockedOf_21 (by decide) (fun c_8 => ?_) (fun c_8 => ?_)
          · have hf := i_t c_8 hf
            exact hke15 _ (Option.some.inj hf).symm _ rfl H locs ls hP hS (lv_sub hl [1, 2, 3] rfl)
          · have hf := i_f c_8 hf
            refine lv_iload_n hx hb dX5_lockedOf_24 rfl (lv_at hl 2 rfl) ?_
            refine lv_iload hx hb dX5_lockedOf_25 (lv_at hl 0 rfl) ?_
            refine kn_X7_has hZ hP hS hl.1 (nest_10 hk.2.1) ⟨Nat.le_of_ble_eq_true rfl, Nat.le_of_ble_eq_true rfl⟩ (Nat.le_of_ble_eq_true rfl) dX5_lockedOf_27 ⟨Nat.zero_le _, Nat.zero_le _⟩ (fun H locs hP hS => ?_)
            refine lv_if_eq (tgt := 52) hx hb dX5_lockedOf_30 (by decide) (fun c_9 => ?_) (fun c_9 => ?_)
            · have hf := i_t c_9 hf
              refine lv_iinc (v := v4_5 + (1 : Int32)) (lv' := [(4, .int (v4_5 + (1 : Int32))), (3, .int v3_1), (2, .int v2_6), (0, .ref (X.ad k0))]) hx hb dX5_lockedOf_52 hl (k := 0) rfl rfl (by decide) rfl (fun ls hl => ?_)
              refine lv_goto (tgt := 15) hx hb dX5_lockedOf_55 (by decide) ?_
              exact hkc15 _ (Option.some.inj hf).symm H locs ls hP hS (lv_sub hl [0, 1, 2, 3] rfl)
            · have hf := i_f c_9 hf
              refine lv_aload_n hx hb dX5_lockedOf_33 rfl (lv_at hl 3 rfl) ?_
              refine lv_iload hx hb dX5_lockedOf_34 (lv_at hl 0 rfl) ?_
              refine lv_iload_n hx hb dX5_lockedOf_36 rfl (lv_at hl 2 rfl) ?_
              obtain ⟨r_10, h_r_10, hf⟩ := b_d hf
              refine k_X5_firstWay hZ hP hS hl.1 wd_3_79 ⟨Nat.le_of_ble_eq_true rfl, Nat.le_of_ble_eq_true rfl⟩ (Nat.le_of_ble_eq_true rfl) dX5_lockedOf_37 ⟨Nat.zero_le _, Nat.zero_le _⟩ hk0 h_r_10 (fun H locs hP hS => ?_)
              refine lv_bipush (v := (-9 : Int32)) hx hb dX5_lockedOf_40 (by decide) ?_
              refine lv_icmp_eq (tgt := 52) hx hb dX5_lockedOf_42 (by decide) (fun c_11 => ?_) (fun c_11 => ?_)
              · have hf := i_t c_11 hf
                refine lv_iinc (v := v4_5 + (1 : Int32)) (lv' := [(4, .int (v4_5 + (1 : Int32))), (3, .int v3_1), (2, .int v2_6), (0, .ref (X.ad k0))]) hx hb dX5_lockedOf_52 hl (k := 0) rfl rfl (by decide) rfl (fun ls hl => ?_)
                refine lv_goto (tgt := 15) hx hb dX5_lockedOf_55 (by decide) ?_
                exact hkc15 _ (Option.some.inj hf).symm H locs ls hP hS (lv_sub hl [0, 1, 2, 3] rfl)
              · have hf := i_f c_11 hf
                refine lv_iload_n hx hb dX5_lockedOf_45 rfl (lv_at hl 2 rfl) ?_
                refine lv_iconst (v := (1 : Int32)) hx hb dX5_lockedOf_46 (by decide) ?_
                refine lv_iload hx hb dX5_lockedOf_47 (lv_at hl 0 rfl) ?_
                refine rw_ishl hx hb dX5_lockedOf_49 ?_
                refine lv_ixor hx hb dX5_lockedOf_50 ?_
                refine lv_topi (fun v2_12 e_v2_12 => ?_)
                have hf := b_v hf e_v2_12
                refine lv_istore_n (lv' := [(2, .int v2_12), (4, .int v4_5), (3, .int v3_1), (0, .ref (X.ad k0))]) hx hb dX5_lockedOf_51 rfl hl (by decide) rfl (fun ls hl => ?_)
                refine lv_iinc (v := v4_5 + (1 : Int32)) (lv' := [(4, .int (v4_5 + (1 : Int32))), (2, .int v2_12), (3, .int v3_1), (0, .ref (X.ad k0))]) hx hb dX5_lockedOf_52 hl (k := 1) rfl rfl (by decide) rfl (fun ls hl => ?_)
                refine lv_goto (tgt := 15) hx hb dX5_lockedOf_55 (by decide) ?_
                exact hkc15 _ (Option.some.inj hf).symm H locs ls hP hS (lv_sub hl [0, 2, 1, 3] rfl)
        · intro v2_7 e H locs ls hP hS hl
          subst o15
          have hf := u1_e hf
          refine lv_iinc (v := v3_1 + (1 : Int32)) (lv' := [(3, .int (v3_1 + (1 : Int32))), (2, .int v2_7), (0, .ref (X.ad k0))]) hx hb dX5_lockedOf_58 hl (k := 0) rfl rfl (by decide) rfl (fun ls hl => ?_)
          refine lv_goto (tgt := 4) hx hb dX5_lockedOf_61 (by decide) ?_
          exact hkc4 _ (Option.some.inj hf).symm H locs ls hP hS (lv_sub hl [0, 1, 2] rfl)
    · intro v2_3 e H locs ls hP hS hl
      subst o4
      have hf := u1_e hf
      refine lv_iload_n hx hb dX5_lockedOf_64 rfl (lv_at hl 0 rfl) ?_
      have hf := Option.some.inj hf
      exact ret_i hx hb hr hlocks hP hS hf dX5_lockedOf_65
  exact key s.heap [] hP hS
theorem hd_X5_lockedOf : Hd yX5_lockedOf 1 := by decide +kernel
theorem k_X5_lockedOf {p : Program} {l : Launch} {e : Env} {R : Room} {s : State} {m : MethodId} {args : Array Value} {below : List Frame} {meth : Method} {c : Code} {H : Heap} {locs : List Loc} {cells slots : Nat} {Q : State → Prop} {cc : ByteArray} {nL pc index : Nat} {ls : Array Slot} {rest : List Value} {X : En} {M : Mem} {H0 : Heap} {own : String} {g : Nat} {k0 : Nat} {x1 : Int32} {r : Int32} (hZ : Fx p c m s args X cc nL own) (hP : wd X M H) (hS : va_S X.A H0 H locs) (hsz : ls.size = nL) (hlk : Cond.methodLink own index yX5_lockedOf ∈ lw_u) (hR : 2 + 1 ≤ R.frames ∧ 8 + (5 + 11) + 46 ≤ R.locals) (hW : (rest.map fun v => v.category).sum ≤ 8) (hdg : decode cc pc = .ok (.invokevirtual index, 3)) (hcs : cells ≤ R.cells ∧ slots ≤ R.slots) (hk0 : isR k0) (hf : fn_X5_lockedOf g k0 x1 M = some r)
    (kk : ∀ (H1 : Heap) (locs1 : List Loc), wd X M H1 → va_S X.A H0 H1 locs1 → W p l e R s m args below meth c H1 locs1 cells slots Q (F0 m (pc + 3) ls (.int r :: rest))) : W p l e R s m args below meth c H locs cells slots Q (F0 m pc ls (.int x1 :: .ref (X.ad k0) :: rest)) :=
  cal_i (runV (As := [.int x1]) (rest := rest) hZ.1 hZ.2.1 hZ.2.2.1 hZ.2.2.2.1 hZ.2.2.2.2.1 hZ.2.2.2.2.2 hP (c_X5_lockedOf g k0 x1 M hk0 r hf) wd_3_78 wd_3_76 wd_3_77 wd_1_4 hd_X5_lockedOf (isR_lt0 hk0) (rd_R0 hk0 _) rfl rfl hlk hR hsz rfl hW hdg hcs) hS kk
/-! FrameRaiser.locked -/
def fn_X7_locked (g : Nat) (x1 : Int32) (M : Mem) : Option (Int32 × Mem) :=
  if (fn_X7_isSet x1 M) = 0 then
    (some ((-1 : Int32), M))
  else
    ((fn_X7_knownRelations g M).bind fun M_2 =>
    (fn_X5_lockedOf g 9 x1 M_2).bind fun r_3 =>
    some (r_3, M_2))
theorem dX7_locked_0 : decode cX7_locked 0 = .ok (.aload_n 0, 1) := by decide +kernel
theorem dX7_locked_1 : decode cX7_locked 1 = .ok (.iload_n 1, 1) := by decide +kernel
theorem dX7_locked_2 : decode cX7_locked 2 = .ok (.invokevirtual 167, 3) := by decide +kernel
theorem dX7_locked_5 : decode cX7_locked 5 = .ok (.ifCond .ne 5, 3) := by decide +kernel
theorem dX7_locked_8 : decode cX7_locked 8 = .ok (.iconst (-1), 1) := by decide +kernel
theorem dX7_locked_9 : decode cX7_locked 9 = .ok (.ireturn, 1) := by decide +kernel
theorem dX7_locked_10 : decode cX7_locked 10 = .ok (.aload_n 0, 1) := by decide +kernel
theorem dX7_locked_11 : decode cX7_locked 11 = .ok (.invokevirtual 160, 3) := by decide +kernel
theorem dX7_locked_14 : decode cX7_locked 14 = .ok (.iload_n 1, 1) := by decide +kernel
theorem dX7_locked_15 : decode cX7_locked 15 = .ok (.invokevirtual 209, 3) := by decide +kernel
theorem dX7_locked_18 : decode cX7_locked 18 = .ok (.ireturn, 1) := by decide +kernel
set_option maxHeartbeats 4000000 in
set_option maxRecDepth 100000 in
theorem c_X7_locked {l : Launch} {X : En} (g : Nat) (x1 : Int32) (M : Mem) (r : Int32) (M9 : Mem) (hf : fn_X7_locked g x1 M = some (r, M9)) : Cn l X yX7_locked cX7_locked 2 (some .int) 4 96 [.ref (X.ad 0), .int x1] M (Qi X r M9) := by
  refine Met.ofW (cc := cX7_locked) (maxL := 2) (ret := (some .int)) (by decide) rfl ?_
  intro p e s m args below meth c s₁ B hml hv
  obtain ⟨rfl, hP, hk⟩ := hv
  have hx := B.exec
  have hb := B.bytes
  have hr := B.returns
  have hlocks := B.notSynchronized
  have hts : ∀ w ∈ lw_u, w.before ([.ref (X.ad 0), .int x1] : List Value).toArray s = true := fun w hw => atoms_spec (ws := Cond.code yX7_locked cX7_locked 2 (some .int) :: lw_u) B.pre w (List.mem_cons_of_mem _ hw)
  have hown : s.vm.findClass RX7 = some m.cls := findClass_of_methodNamed B.named
  have hZ : Fx p c m s ([.ref (X.ad 0), .int x1] : List Value).toArray X cX7_locked 2 RX7 := ⟨hx, hb, hml, hts, hown, hk⟩
  have hS : va_S X.A s.heap s.heap [] := va_S.rf
  have hl := lv_entry ([.ref (X.ad 0), .int x1]) (n := 2) (Nat.le_of_ble_eq_true rfl)
  rw [lg_entry_eq]
  generalize (lg_sl ([.ref (X.ad 0), .int x1]) ++ List.replicate (2 - (lg_sl ([.ref (X.ad 0), .int x1])).length) Slot.unset).toArray = ls at hl ⊢
  have hl : lv_has ls 2 [(0, .ref (X.ad 0)), (1, .int x1)] := hl
  show WW p l e 4 96 s m [.ref (X.ad 0), .int x1] below meth c X (Qi X r M9) s.heap [] 0 ls []
  have hP : wd X M s.heap := hP
  unfold fn_X7_locked at hf
  have key : ∀ (H : Heap) (locs : List Loc), wd X M H → va_S X.A s.heap H locs → WW p l e 4 96 s m [.ref (X.ad 0), .int x1] below meth c X (Qi X r M9) H locs 0 ls [] := by
    intro H locs hP hS
    refine lv_aload_n hx hb dX7_locked_0 rfl (lv_at hl 0 rfl) ?_
    refine lv_iload_n hx hb dX7_locked_1 rfl (lv_at hl 1 rfl) ?_
    refine k_X7_isSet hZ hP hS hl.1 wd_2_221 ⟨Nat.le_of_ble_eq_true rfl, Nat.le_of_ble_eq_true rfl⟩ (Nat.le_of_ble_eq_true rfl) dX7_locked_2 ⟨Nat.zero_le _, Nat.zero_le _⟩ (fun H locs hP hS => ?_)
    refine lv_if_ne (tgt := 10) hx hb dX7_locked_5 (by decide) (fun c_1 => ?_) (fun c_1 => ?_)
    · have hf := i_f c_1 hf
      refine lv_aload_n hx hb dX7_locked_10 rfl (lv_at hl 0 rfl) ?_
      obtain ⟨M_2, h_M_2, hf⟩ := b_d hf
      refine k_X7_knownRelations hZ hP hS hl.1 wd_2_185 ⟨Nat.le_of_ble_eq_true rfl, Nat.le_of_ble_eq_true rfl⟩ (Nat.le_of_ble_eq_true rfl) dX7_locked_11 ⟨Nat.zero_le _, Nat.zero_le _⟩ h_M_2 (fun H locs hP hS => ?_)
      refine lv_iload_n hx hb dX7_locked_14 rfl (lv_at hl 1 rfl) ?_
      obtain ⟨r_3, h_r_3, hf⟩ := b_d hf
      refine k_X5_lockedOf hZ hP hS hl.1 wd_3_75 ⟨Nat.le_of_ble_eq_true rfl, Nat.le_of_ble_eq_true rfl⟩ (Nat.le_of_ble_eq_true rfl) dX7_locked_15 ⟨Nat.zero_le _, Nat.zero_le _⟩ isR_9 h_r_3 (fun H locs hP hS => ?_)
      have hf := Option.some.inj hf
      obtain ⟨e1, e2⟩ := Prod.mk.inj hf
      rw [e2] at hP
      exact ret_i hx hb hr hlocks hP hS e1 dX7_locked_18
    · have hf := i_t c_1 hf
      refine lv_iconst (v := (-1 : Int32)) hx hb dX7_locked_8 (by decide) ?_
      have hf := Option.some.inj hf
      obtain ⟨e1, e2⟩ := Prod.mk.inj hf
      rw [e2] at hP
      exact ret_i hx hb hr hlocks hP hS e1 dX7_locked_9
  exact key s.heap [] hP hS
theorem hd_X7_locked : Hd yX7_locked 1 := by decide +kernel
theorem k_X7_locked {p : Program} {l : Launch} {e : Env} {R : Room} {s : State} {m : MethodId} {args : Array Value} {below : List Frame} {meth : Method} {c : Code} {H : Heap} {locs : List Loc} {cells slots : Nat} {Q : State → Prop} {cc : ByteArray} {nL pc index : Nat} {ls : Array Slot} {rest : List Value} {X : En} {M : Mem} {H0 : Heap} {own : String} {g : Nat} {x1 : Int32} {r : Int32} {M9 : Mem} (hZ : Fx p c m s args X cc nL own) (hP : wd X M H) (hS : va_S X.A H0 H locs) (hsz : ls.size = nL) (hlk : Cond.methodLink own index yX7_locked ∈ lw_u) (hR : 4 + 1 ≤ R.frames ∧ 8 + (2 + 11) + 96 ≤ R.locals) (hW : (rest.map fun v => v.category).sum ≤ 8) (hdg : decode cc pc = .ok (.invokevirtual index, 3)) (hcs : cells ≤ R.cells ∧ slots ≤ R.slots) (hf : fn_X7_locked g x1 M = some (r, M9))
    (kk : ∀ (H1 : Heap) (locs1 : List Loc), wd X M9 H1 → va_S X.A H0 H1 locs1 → W p l e R s m args below meth c H1 locs1 cells slots Q (F0 m (pc + 3) ls (.int r :: rest))) : W p l e R s m args below meth c H locs cells slots Q (F0 m pc ls (.int x1 :: .ref (X.ad 0) :: rest)) :=
  cal_i (runV (As := [.int x1]) (rest := rest) hZ.1 hZ.2.1 hZ.2.2.1 hZ.2.2.2.1 hZ.2.2.2.2.1 hZ.2.2.2.2.2 hP (c_X7_locked g x1 M r M9 hf) wd_3_74 wd_3_72 wd_3_73 wd_1_1 hd_X7_locked (by decide) rfl rfl rfl hlk hR hsz rfl hW hdg hcs) hS kk
/-! FrameRaiser$Relations.isGroupFree -/
def bd_X5_isGroupFree_3 (k0 : Nat) (x1 : Int32) (x2 : Int32) (x3 : Int32) (M : Mem) : (Int32) → Option ((Int32) ⊕ ((Unit) ⊕ (Int32))) :=
  u1 fun v4_1 =>
  if (M k0 5) ≤ v4_1 then
    (some (.inr (.inl ())))
  else
    (if (fn_X7_has x1 v4_1) = 0 then
      (some (.inl (v4_1 + (1 : Int32))))
    else
      ((fn_X5_isFree k0 v4_1 x2 x3 M).bind fun r_4 =>
      if r_4 = 0 then
        (some (.inr (.inr (0 : Int32))))
      else
        (some (.inl (v4_1 + (1 : Int32))))))
def fn_X5_isGroupFree (g : Nat) (k0 : Nat) (x1 : Int32) (x2 : Int32) (x3 : Int32) (M : Mem) : Option (Int32) :=
  (lpN g (bd_X5_isGroupFree_3 k0 x1 x2 x3 M) (0 : Int32)).bind (el (fun (_ : Unit) =>
    some (1 : Int32)) (fun rr => some rr))
theorem dX5_isGroupFree_0 : decode cX5_isGroupFree 0 = .ok (.iconst 0, 1) := by decide +kernel
theorem dX5_isGroupFree_1 : decode cX5_isGroupFree 1 = .ok (.istore 4, 2) := by decide +kernel
theorem dX5_isGroupFree_3 : decode cX5_isGroupFree 3 = .ok (.iload 4, 2) := by decide +kernel
theorem dX5_isGroupFree_5 : decode cX5_isGroupFree 5 = .ok (.aload_n 0, 1) := by decide +kernel
theorem dX5_isGroupFree_6 : decode cX5_isGroupFree 6 = .ok (.getfield 33, 3) := by decide +kernel
theorem dX5_isGroupFree_9 : decode cX5_isGroupFree 9 = .ok (.if_icmp .ge 31, 3) := by decide +kernel
theorem dX5_isGroupFree_12 : decode cX5_isGroupFree 12 = .ok (.iload_n 1, 1) := by decide +kernel
theorem dX5_isGroupFree_13 : decode cX5_isGroupFree 13 = .ok (.iload 4, 2) := by decide +kernel
theorem dX5_isGroupFree_15 : decode cX5_isGroupFree 15 = .ok (.invokestatic 64, 3) := by decide +kernel
theorem dX5_isGroupFree_18 : decode cX5_isGroupFree 18 = .ok (.ifCond .eq 16, 3) := by decide +kernel
theorem dX5_isGroupFree_21 : decode cX5_isGroupFree 21 = .ok (.aload_n 0, 1) := by decide +kernel
theorem dX5_isGroupFree_22 : decode cX5_isGroupFree 22 = .ok (.iload 4, 2) := by decide +kernel
theorem dX5_isGroupFree_24 : decode cX5_isGroupFree 24 = .ok (.iload_n 2, 1) := by decide +kernel
theorem dX5_isGroupFree_25 : decode cX5_isGroupFree 25 = .ok (.iload_n 3, 1) := by decide +kernel
theorem dX5_isGroupFree_26 : decode cX5_isGroupFree 26 = .ok (.invokevirtual 60, 3) := by decide +kernel
theorem dX5_isGroupFree_29 : decode cX5_isGroupFree 29 = .ok (.ifCond .ne 5, 3) := by decide +kernel
theorem dX5_isGroupFree_32 : decode cX5_isGroupFree 32 = .ok (.iconst 0, 1) := by decide +kernel
theorem dX5_isGroupFree_33 : decode cX5_isGroupFree 33 = .ok (.ireturn, 1) := by decide +kernel
theorem dX5_isGroupFree_34 : decode cX5_isGroupFree 34 = .ok (.iinc 4 1, 3) := by decide +kernel
theorem dX5_isGroupFree_37 : decode cX5_isGroupFree 37 = .ok (.goto (-34), 3) := by decide +kernel
theorem dX5_isGroupFree_40 : decode cX5_isGroupFree 40 = .ok (.iconst 1, 1) := by decide +kernel
theorem dX5_isGroupFree_41 : decode cX5_isGroupFree 41 = .ok (.ireturn, 1) := by decide +kernel
set_option maxHeartbeats 4000000 in
set_option maxRecDepth 100000 in
theorem c_X5_isGroupFree {l : Launch} {X : En} (g : Nat) (k0 : Nat) (x1 : Int32) (x2 : Int32) (x3 : Int32) (M : Mem) (hk0 : isR k0) (r : Int32) (hf : fn_X5_isGroupFree g k0 x1 x2 x3 M = some r) : Cn l X yX5_isGroupFree cX5_isGroupFree 5 (some .boolean) 1 23 [.ref (X.ad k0), .int x1, .int x2, .int x3] M (Qi X r M) := by
  refine Met.ofW (cc := cX5_isGroupFree) (maxL := 5) (ret := (some .boolean)) (by decide) rfl ?_
  intro p e s m args below meth c s₁ B hml hv
  obtain ⟨rfl, hP, hk⟩ := hv
  have hx := B.exec
  have hb := B.bytes
  have hr := B.returns
  have hlocks := B.notSynchronized
  have hts : ∀ w ∈ lw_u, w.before ([.ref (X.ad k0), .int x1, .int x2, .int x3] : List Value).toArray s = true := fun w hw => atoms_spec (ws := Cond.code yX5_isGroupFree cX5_isGroupFree 5 (some .boolean) :: lw_u) B.pre w (List.mem_cons_of_mem _ hw)
  have hown : s.vm.findClass RX5 = some m.cls := findClass_of_methodNamed B.named
  have hZ : Fx p c m s ([.ref (X.ad k0), .int x1, .int x2, .int x3] : List Value).toArray X cX5_isGroupFree 5 RX5 := ⟨hx, hb, hml, hts, hown, hk⟩
  have hS : va_S X.A s.heap s.heap [] := va_S.rf
  have hl := lv_entry ([.ref (X.ad k0), .int x1, .int x2, .int x3]) (n := 5) (Nat.le_of_ble_eq_true rfl)
  rw [lg_entry_eq]
  generalize (lg_sl ([.ref (X.ad k0), .int x1, .int x2, .int x3]) ++ List.replicate (5 - (lg_sl ([.ref (X.ad k0), .int x1, .int x2, .int x3])).length) Slot.unset).toArray = ls at hl ⊢
  have hl : lv_has ls 5 [(0, .ref (X.ad k0)), (1, .int x1), (2, .int x2), (3, .int x3)] := hl
  show WW p l e 1 23 s m [.ref (X.ad k0), .int x1, .int x2, .int x3] below meth c X (Qi X r M) s.heap [] 0 ls []
  have hP : wd X M s.heap := hP
  unfold fn_X5_isGroupFree at hf
  have key : ∀ (H : Heap) (locs : List Loc), wd X M H → va_S X.A s.heap H locs → WW p l e 1 23 s m [.ref (X.ad k0), .int x1, .int x2, .int x3] below meth c X (Qi X r M) H locs 0 ls [] := by
    intro H locs hP hS
    refine lv_iconst (v := (0 : Int32)) hx hb dX5_isGroupFree_0 (by decide) ?_
    refine lv_istore (lv' := [(4, .int (0 : Int32)), (0, .ref (X.ad k0)), (1, .int x1), (2, .int x2), (3, .int x3)]) hx hb dX5_isGroupFree_1 hl (by decide) rfl (fun ls hl => ?_)
    obtain ⟨o3, ho3, hf⟩ := b_d hf
    refine lp_rule (b := bd_X5_isGroupFree_3 k0 x1 x2 x3 M) (P := fun w : Int32 => ∀ (H : Heap) (locs : List Loc) (ls : Array Slot), wd X M H → va_S X.A s.heap H locs → lv_has ls 5 [(4, .int w), (0, .ref (X.ad k0)), (1, .int x1), (2, .int x2), (3, .int x3)] → WW p l e 1 23 s m [.ref (X.ad k0), .int x1, .int x2, .int x3] below meth c X (Qi X r M) H locs 3 ls []) (K := fun o => (o = .inl () → ∀ (H : Heap) (locs : List Loc) (ls : Array Slot), wd X M H → va_S X.A s.heap H locs → lv_has ls 5 [] → WW p l e 1 23 s m [.ref (X.ad k0), .int x1, .int x2, .int x3] below meth c X (Qi X r M) H locs 40 ls []) ∧ (∀ rr : Int32, o = .inr rr → rr = r)) ?_ g (0 : Int32) o3 ho3 ?_ H locs ls hP hS (lv_sub hl [0, 1, 2, 3, 4] rfl)
    · rintro v4_1 o hf hkc3 hke3 H locs ls hP hS hl
      have hf := u1_e hf
      refine lv_iload hx hb dX5_isGroupFree_3 (lv_at hl 0 rfl) ?_
      refine lv_aload_n hx hb dX5_isGroupFree_5 rfl (lv_at hl 1 rfl) ?_
      refine gX5_5 hx hb hts hown hk hP hk0 wd_1_96 dX5_isGroupFree_6 ?_
      refine lv_icmp_ge (tgt := 40) hx hb dX5_isGroupFree_9 (by decide) (fun c_2 => ?_) (fun c_2 => ?_)
      · have hf := i_t c_2 hf
        exact (hke3 _ (Option.some.inj hf).symm).1  rfl H locs ls hP hS (lv_sub hl [] rfl)
      · have hf := i_f c_2 hf
        refine lv_iload_n hx hb dX5_isGroupFree_12 rfl (lv_at hl 2 rfl) ?_
        refine lv_iload hx hb dX5_isGroupFree_13 (lv_at hl 0 rfl) ?_
        refine kn_X7_has hZ hP hS hl.1 (nest_10 hk.2.1) ⟨Nat.le_of_ble_eq_true rfl, Nat.le_of_ble_eq_true rfl⟩ (Nat.le_of_ble_eq_true rfl) dX5_isGroupFree_15 ⟨Nat.zero_le _, Nat.zero_le _⟩ (fun H locs hP hS => ?_)
        refine lv_if_eq (tgt := 34) hx hb dX5_isGroupFree_18 (by decide) (fun c_3 => ?_) (fun c_3 => ?_)
        · have hf := i_t c_3 hf
          refine lv_iinc (v := v4_1 + (1 : Int32)) (lv' := [(4, .int (v4_1 + (1 : Int32))), (0, .ref (X.ad k0)), (1, .int x1), (2, .int x2), (3, .int x3)]) hx hb dX5_isGroupFree_34 hl (k := 0) rfl rfl (by decide) rfl (fun ls hl => ?_)
          refine lv_goto (tgt := 3) hx hb dX5_isGroupFree_37 (by decide) ?_
          exact hkc3 _ (Option.some.inj hf).symm H locs ls hP hS (lv_sub hl [0, 1, 2, 3, 4] rfl)
        · have hf := i_f c_3 hf
          refine lv_aload_n hx hb dX5_isGroupFree_21 rfl (lv_at hl 1 rfl) ?_
          refine lv_iload hx hb dX5_isGroupFree_22 (lv_at hl 0 rfl) ?_
          refine lv_iload_n hx hb dX5_isGroupFree_24 rfl (lv_at hl 3 rfl) ?_
          refine lv_iload_n hx hb dX5_isGroupFree_25 rfl (lv_at hl 4 rfl) ?_
          obtain ⟨r_4, h_r_4, hf⟩ := b_d hf
          refine k_X5_isFree hZ hP hS hl.1 wd_3_42 ⟨Nat.le_of_ble_eq_true rfl, Nat.le_of_ble_eq_true rfl⟩ (Nat.le_of_ble_eq_true rfl) dX5_isGroupFree_26 ⟨Nat.zero_le _, Nat.zero_le _⟩ hk0 h_r_4 (fun H locs hP hS => ?_)
          refine lv_if_ne (tgt := 34) hx hb dX5_isGroupFree_29 (by decide) (fun c_5 => ?_) (fun c_5 => ?_)
          · have hf := i_f c_5 hf
            refine lv_iinc (v := v4_1 + (1 : Int32)) (lv' := [(4, .int (v4_1 + (1 : Int32))), (0, .ref (X.ad k0)), (1, .int x1), (2, .int x2), (3, .int x3)]) hx hb dX5_isGroupFree_34 hl (k := 0) rfl rfl (by decide) rfl (fun ls hl => ?_)
            refine lv_goto (tgt := 3) hx hb dX5_isGroupFree_37 (by decide) ?_
            exact hkc3 _ (Option.some.inj hf).symm H locs ls hP hS (lv_sub hl [0, 1, 2, 3, 4] rfl)
          · have hf := i_t c_5 hf
            refine lv_iconst (v := (0 : Int32)) hx hb dX5_isGroupFree_32 (by decide) ?_
            have hf := (hke3 _ (Option.some.inj hf).symm).2 _ rfl
            exact ret_z hx hb hr hlocks hP hS isZ_0 hf dX5_isGroupFree_33
    · refine ⟨?_, ?_⟩
      · intro  e H locs ls hP hS hl
        subst o3
        have hf := el_l hf
        refine lv_iconst (v := (1 : Int32)) hx hb dX5_isGroupFree_40 (by decide) ?_
        have hf := Option.some.inj hf
        exact ret_z hx hb hr hlocks hP hS isZ_1 hf dX5_isGroupFree_41
      · intro rr e
        subst o3
        have hf := el_r hf
        exact Option.some.inj hf
  exact key s.heap [] hP hS
theorem hd_X5_isGroupFree : Hd yX5_isGroupFree 3 := by decide +kernel
theorem k_X5_isGroupFree {p : Program} {l : Launch} {e : Env} {R : Room} {s : State} {m : MethodId} {args : Array Value} {below : List Frame} {meth : Method} {c : Code} {H : Heap} {locs : List Loc} {cells slots : Nat} {Q : State → Prop} {cc : ByteArray} {nL pc index : Nat} {ls : Array Slot} {rest : List Value} {X : En} {M : Mem} {H0 : Heap} {own : String} {g : Nat} {k0 : Nat} {x1 : Int32} {x2 : Int32} {x3 : Int32} {r : Int32} (hZ : Fx p c m s args X cc nL own) (hP : wd X M H) (hS : va_S X.A H0 H locs) (hsz : ls.size = nL) (hlk : Cond.methodLink own index yX5_isGroupFree ∈ lw_u) (hR : 1 + 1 ≤ R.frames ∧ 8 + (5 + 11) + 23 ≤ R.locals) (hW : (rest.map fun v => v.category).sum ≤ 8) (hdg : decode cc pc = .ok (.invokevirtual index, 3)) (hcs : cells ≤ R.cells ∧ slots ≤ R.slots) (hk0 : isR k0) (hf : fn_X5_isGroupFree g k0 x1 x2 x3 M = some r)
    (kk : ∀ (H1 : Heap) (locs1 : List Loc), wd X M H1 → va_S X.A H0 H1 locs1 → W p l e R s m args below meth c H1 locs1 cells slots Q (F0 m (pc + 3) ls (.int r :: rest))) : W p l e R s m args below meth c H locs cells slots Q (F0 m pc ls (.int x3 :: .int x2 :: .int x1 :: .ref (X.ad k0) :: rest)) :=
  cal_i (runV (As := [.int x1, .int x2, .int x3]) (rest := rest) hZ.1 hZ.2.1 hZ.2.2.1 hZ.2.2.2.1 hZ.2.2.2.2.1 hZ.2.2.2.2.2 hP (c_X5_isGroupFree g k0 x1 x2 x3 M hk0 r hf) wd_3_101 wd_3_100 wd_p_22 wd_1_4 hd_X5_isGroupFree (isR_lt0 hk0) (rd_R0 hk0 _) rfl rfl hlk hR hsz rfl hW hdg hcs) hS kk
/-! FrameRaiser$Relations.wayOfGroup -/
def bd_X5_wayOfGroup_2 (g : Nat) (k0 : Nat) (x1 : Int32) (x2 : Int32) (M : Mem) : (Int32) → Option ((Int32) ⊕ ((Unit) ⊕ (Int32))) :=
  u1 fun v3_1 =>
  if (6 : Int32) ≤ v3_1 then
    (some (.inr (.inl ())))
  else
    ((fn_X5_isGroupFree g k0 x1 v3_1 (x2 &&& (x1 ^^^ (-1 : Int32))) M).bind fun r_3 =>
    if r_3 = 0 then
      (some (.inl (v3_1 + (1 : Int32))))
    else
      (some (.inr (.inr v3_1))))
def fn_X5_wayOfGroup (g : Nat) (k0 : Nat) (x1 : Int32) (x2 : Int32) (M : Mem) : Option (Int32) :=
  (lpN g (bd_X5_wayOfGroup_2 g k0 x1 x2 M) (0 : Int32)).bind (el (fun (_ : Unit) =>
    some (-9 : Int32)) (fun rr => some rr))
theorem dX5_wayOfGroup_0 : decode cX5_wayOfGroup 0 = .ok (.iconst 0, 1) := by decide +kernel
theorem dX5_wayOfGroup_1 : decode cX5_wayOfGroup 1 = .ok (.istore_n 3, 1) := by decide +kernel
theorem dX5_wayOfGroup_2 : decode cX5_wayOfGroup 2 = .ok (.iload_n 3, 1) := by decide +kernel
theorem dX5_wayOfGroup_3 : decode cX5_wayOfGroup 3 = .ok (.bipush 6, 2) := by decide +kernel
theorem dX5_wayOfGroup_5 : decode cX5_wayOfGroup 5 = .ok (.if_icmp .ge 25, 3) := by decide +kernel
theorem dX5_wayOfGroup_8 : decode cX5_wayOfGroup 8 = .ok (.aload_n 0, 1) := by decide +kernel
theorem dX5_wayOfGroup_9 : decode cX5_wayOfGroup 9 = .ok (.iload_n 1, 1) := by decide +kernel
theorem dX5_wayOfGroup_10 : decode cX5_wayOfGroup 10 = .ok (.iload_n 3, 1) := by decide +kernel
theorem dX5_wayOfGroup_11 : decode cX5_wayOfGroup 11 = .ok (.iload_n 2, 1) := by decide +kernel
theorem dX5_wayOfGroup_12 : decode cX5_wayOfGroup 12 = .ok (.iload_n 1, 1) := by decide +kernel
theorem dX5_wayOfGroup_13 : decode cX5_wayOfGroup 13 = .ok (.iconst (-1), 1) := by decide +kernel
theorem dX5_wayOfGroup_14 : decode cX5_wayOfGroup 14 = .ok (.ixor, 1) := by decide +kernel
theorem dX5_wayOfGroup_15 : decode cX5_wayOfGroup 15 = .ok (.iand, 1) := by decide +kernel
theorem dX5_wayOfGroup_16 : decode cX5_wayOfGroup 16 = .ok (.invokevirtual 79, 3) := by decide +kernel
theorem dX5_wayOfGroup_19 : decode cX5_wayOfGroup 19 = .ok (.ifCond .eq 5, 3) := by decide +kernel
theorem dX5_wayOfGroup_22 : decode cX5_wayOfGroup 22 = .ok (.iload_n 3, 1) := by decide +kernel
theorem dX5_wayOfGroup_23 : decode cX5_wayOfGroup 23 = .ok (.ireturn, 1) := by decide +kernel
theorem dX5_wayOfGroup_24 : decode cX5_wayOfGroup 24 = .ok (.iinc 3 1, 3) := by decide +kernel
theorem dX5_wayOfGroup_27 : decode cX5_wayOfGroup 27 = .ok (.goto (-25), 3) := by decide +kernel
theorem dX5_wayOfGroup_30 : decode cX5_wayOfGroup 30 = .ok (.bipush (-9), 2) := by decide +kernel
theorem dX5_wayOfGroup_32 : decode cX5_wayOfGroup 32 = .ok (.ireturn, 1) := by decide +kernel
set_option maxHeartbeats 4000000 in
set_option maxRecDepth 100000 in
theorem c_X5_wayOfGroup {l : Launch} {X : En} (g : Nat) (k0 : Nat) (x1 : Int32) (x2 : Int32) (M : Mem) (hk0 : isR k0) (r : Int32) (hf : fn_X5_wayOfGroup g k0 x1 x2 M = some r) : Cn l X yX5_wayOfGroup cX5_wayOfGroup 4 (some .int) 2 47 [.ref (X.ad k0), .int x1, .int x2] M (Qi X r M) := by
  refine Met.ofW (cc := cX5_wayOfGroup) (maxL := 4) (ret := (some .int)) (by decide) rfl ?_
  intro p e s m args below meth c s₁ B hml hv
  obtain ⟨rfl, hP, hk⟩ := hv
  have hx := B.exec
  have hb := B.bytes
  have hr := B.returns
  have hlocks := B.notSynchronized
  have hts : ∀ w ∈ lw_u, w.before ([.ref (X.ad k0), .int x1, .int x2] : List Value).toArray s = true := fun w hw => atoms_spec (ws := Cond.code yX5_wayOfGroup cX5_wayOfGroup 4 (some .int) :: lw_u) B.pre w (List.mem_cons_of_mem _ hw)
  have hown : s.vm.findClass RX5 = some m.cls := findClass_of_methodNamed B.named
  have hZ : Fx p c m s ([.ref (X.ad k0), .int x1, .int x2] : List Value).toArray X cX5_wayOfGroup 4 RX5 := ⟨hx, hb, hml, hts, hown, hk⟩
  have hS : va_S X.A s.heap s.heap [] := va_S.rf
  have hl := lv_entry ([.ref (X.ad k0), .int x1, .int x2]) (n := 4) (Nat.le_of_ble_eq_true rfl)
  rw [lg_entry_eq]
  generalize (lg_sl ([.ref (X.ad k0), .int x1, .int x2]) ++ List.replicate (4 - (lg_sl ([.ref (X.ad k0), .int x1, .int x2])).length) Slot.unset).toArray = ls at hl ⊢
  have hl : lv_has ls 4 [(0, .ref (X.ad k0)), (1, .int x1), (2, .int x2)] := hl
  show WW p l e 2 47 s m [.ref (X.ad k0), .int x1, .int x2] below meth c X (Qi X r M) s.heap [] 0 ls []
  have hP : wd X M s.heap := hP
  unfold fn_X5_wayOfGroup at hf
  have key : ∀ (H : Heap) (locs : List Loc), wd X M H → va_S X.A s.heap H locs → WW p l e 2 47 s m [.ref (X.ad k0), .int x1, .int x2] below meth c X (Qi X r M) H locs 0 ls [] := by
    intro H locs hP hS
    refine lv_iconst (v := (0 : Int32)) hx hb dX5_wayOfGroup_0 (by decide) ?_
    refine lv_istore_n (lv' := [(3, .int (0 : Int32)), (0, .ref (X.ad k0)), (1, .int x1), (2, .int x2)]) hx hb dX5_wayOfGroup_1 rfl hl (by decide) rfl (fun ls hl => ?_)
    obtain ⟨o2, ho2, hf⟩ := b_d hf
    refine lp_rule (b := bd_X5_wayOfGroup_2 g k0 x1 x2 M) (P := fun w : Int32 => ∀ (H : Heap) (locs : List Loc) (ls : Array Slot), wd X M H → va_S X.A s.heap H locs → lv_has ls 4 [(3, .int w), (0, .ref (X.ad k0)), (1, .int x1), (2, .int x2)] → WW p l e 2 47 s m [.ref (X.ad k0), .int x1, .int x2] below meth c X (Qi X r M) H locs 2 ls []) (K := fun o => (o = .inl () → ∀ (H : Heap) (locs : List Loc) (ls : Array Slot), wd X M H → va_S X.A s.heap H locs → lv_has ls 4 [] → WW p l e 2 47 s m [.ref (X.ad k0), .int x1, .int x2] below meth c X (Qi X r M) H locs 30 ls []) ∧ (∀ rr : Int32, o = .inr rr → rr = r)) ?_ g (0 : Int32) o2 ho2 ?_ H locs ls hP hS (lv_sub hl [0, 1, 2, 3] rfl)
    · rintro v3_1 o hf hkc2 hke2 H locs ls hP hS hl
      have hf := u1_e hf
      refine lv_iload_n hx hb dX5_wayOfGroup_2 rfl (lv_at hl 0 rfl) ?_
      refine lv_bipush (v := (6 : Int32)) hx hb dX5_wayOfGroup_3 (by decide) ?_
      refine lv_icmp_ge (tgt := 30) hx hb dX5_wayOfGroup_5 (by decide) (fun c_2 => ?_) (fun c_2 => ?_)
      · have hf := i_t c_2 hf
        exact (hke2 _ (Option.some.inj hf).symm).1  rfl H locs ls hP hS (lv_sub hl [] rfl)
      · have hf := i_f c_2 hf
        refine lv_aload_n hx hb dX5_wayOfGroup_8 rfl (lv_at hl 1 rfl) ?_
        refine lv_iload_n hx hb dX5_wayOfGroup_9 rfl (lv_at hl 2 rfl) ?_
        refine lv_iload_n hx hb dX5_wayOfGroup_10 rfl (lv_at hl 0 rfl) ?_
        refine lv_iload_n hx hb dX5_wayOfGroup_11 rfl (lv_at hl 3 rfl) ?_
        refine lv_iload_n hx hb dX5_wayOfGroup_12 rfl (lv_at hl 2 rfl) ?_
        refine lv_iconst (v := (-1 : Int32)) hx hb dX5_wayOfGroup_13 (by decide) ?_
        refine lv_ixor hx hb dX5_wayOfGroup_14 ?_
        refine lv_iand hx hb dX5_wayOfGroup_15 ?_
        obtain ⟨r_3, h_r_3, hf⟩ := b_d hf
        refine k_X5_isGroupFree hZ hP hS hl.1 wd_3_98 ⟨Nat.le_of_ble_eq_true rfl, Nat.le_of_ble_eq_true rfl⟩ (Nat.le_of_ble_eq_true rfl) dX5_wayOfGroup_16 ⟨Nat.zero_le _, Nat.zero_le _⟩ hk0 h_r_3 (fun H locs hP hS => ?_)
        refine lv_if_eq (tgt := 24) hx hb dX5_wayOfGroup_19 (by decide) (fun c_4 => ?_) (fun c_4 => ?_)
        · have hf := i_t c_4 hf
          refine lv_iinc (v := v3_1 + (1 : Int32)) (lv' := [(3, .int (v3_1 + (1 : Int32))), (0, .ref (X.ad k0)), (1, .int x1), (2, .int x2)]) hx hb dX5_wayOfGroup_24 hl (k := 0) rfl rfl (by decide) rfl (fun ls hl => ?_)
          refine lv_goto (tgt := 2) hx hb dX5_wayOfGroup_27 (by decide) ?_
          exact hkc2 _ (Option.some.inj hf).symm H locs ls hP hS (lv_sub hl [0, 1, 2, 3] rfl)
        · have hf := i_f c_4 hf
          refine lv_iload_n hx hb dX5_wayOfGroup_22 rfl (lv_at hl 0 rfl) ?_
          have hf := (hke2 _ (Option.some.inj hf).symm).2 _ rfl
          exact ret_i hx hb hr hlocks hP hS hf dX5_wayOfGroup_23
    · refine ⟨?_, ?_⟩
      · intro  e H locs ls hP hS hl
        subst o2
        have hf := el_l hf
        refine lv_bipush (v := (-9 : Int32)) hx hb dX5_wayOfGroup_30 (by decide) ?_
        have hf := Option.some.inj hf
        exact ret_i hx hb hr hlocks hP hS hf dX5_wayOfGroup_32
      · intro rr e
        subst o2
        have hf := el_r hf
        exact Option.some.inj hf
  exact key s.heap [] hP hS
theorem hd_X5_wayOfGroup : Hd yX5_wayOfGroup 2 := by decide +kernel
theorem k_X5_wayOfGroup {p : Program} {l : Launch} {e : Env} {R : Room} {s : State} {m : MethodId} {args : Array Value} {below : List Frame} {meth : Method} {c : Code} {H : Heap} {locs : List Loc} {cells slots : Nat} {Q : State → Prop} {cc : ByteArray} {nL pc index : Nat} {ls : Array Slot} {rest : List Value} {X : En} {M : Mem} {H0 : Heap} {own : String} {g : Nat} {k0 : Nat} {x1 : Int32} {x2 : Int32} {r : Int32} (hZ : Fx p c m s args X cc nL own) (hP : wd X M H) (hS : va_S X.A H0 H locs) (hsz : ls.size = nL) (hlk : Cond.methodLink own index yX5_wayOfGroup ∈ lw_u) (hR : 2 + 1 ≤ R.frames ∧ 8 + (4 + 11) + 47 ≤ R.locals) (hW : (rest.map fun v => v.category).sum ≤ 8) (hdg : decode cc pc = .ok (.invokevirtual index, 3)) (hcs : cells ≤ R.cells ∧ slots ≤ R.slots) (hk0 : isR k0) (hf : fn_X5_wayOfGroup g k0 x1 x2 M = some r)
    (kk : ∀ (H1 : Heap) (locs1 : List Loc), wd X M H1 → va_S X.A H0 H1 locs1 → W p l e R s m args below meth c H1 locs1 cells slots Q (F0 m (pc + 3) ls (.int r :: rest))) : W p l e R s m args below meth c H locs cells slots Q (F0 m pc ls (.int x2 :: .int x1 :: .ref (X.ad k0) :: rest)) :=
  cal_i (runV (As := [.int x1, .int x2]) (rest := rest) hZ.1 hZ.2.1 hZ.2.2.1 hZ.2.2.2.1 hZ.2.2.2.2.1 hZ.2.2.2.2.2 hP (c_X5_wayOfGroup g k0 x1 x2 M hk0 r hf) wd_3_97 wd_3_95 wd_3_96 wd_1_4 hd_X5_wayOfGroup (isR_lt0 hk0) (rd_R0 hk0 _) rfl rfl hlk hR hsz rfl hW hdg hcs) hS kk
/-! java/lang/Integer.bitCount -/
def fn_J6_bitCount_0f7a4 (x0 : Int32) : Int32 :=
  bv (x0 - ((us x0 (1 : Int32)) &&& (1431655765 : Int32))) fun v0_1 =>
  bv ((v0_1 &&& (858993459 : Int32)) + ((us v0_1 (2 : Int32)) &&& (858993459 : Int32))) fun v0_2 =>
  bv ((v0_2 + (us v0_2 (4 : Int32))) &&& (252645135 : Int32)) fun v0_3 =>
  bv (v0_3 + (us v0_3 (8 : Int32))) fun v0_4 =>
  bv (v0_4 + (us v0_4 (16 : Int32))) fun v0_5 =>
  v0_5 &&& (63 : Int32)
theorem dJ6_bitCount_0f7a4_0 : decode cJ6_bitCount_0f7a4 0 = .ok (.iload_n 0, 1) := by decide +kernel
theorem dJ6_bitCount_0f7a4_1 : decode cJ6_bitCount_0f7a4 1 = .ok (.iload_n 0, 1) := by decide +kernel
theorem dJ6_bitCount_0f7a4_2 : decode cJ6_bitCount_0f7a4 2 = .ok (.iconst 1, 1) := by decide +kernel
theorem dJ6_bitCount_0f7a4_3 : decode cJ6_bitCount_0f7a4 3 = .ok (.iushr, 1) := by decide +kernel
theorem dJ6_bitCount_0f7a4_4 : decode cJ6_bitCount_0f7a4 4 = .ok (.ldc_w 265, 3) := by decide +kernel
theorem dJ6_bitCount_0f7a4_7 : decode cJ6_bitCount_0f7a4 7 = .ok (.iand, 1) := by decide +kernel
theorem dJ6_bitCount_0f7a4_8 : decode cJ6_bitCount_0f7a4 8 = .ok (.isub, 1) := by decide +kernel
theorem dJ6_bitCount_0f7a4_9 : decode cJ6_bitCount_0f7a4 9 = .ok (.istore_n 0, 1) := by decide +kernel
theorem dJ6_bitCount_0f7a4_10 : decode cJ6_bitCount_0f7a4 10 = .ok (.iload_n 0, 1) := by decide +kernel
theorem dJ6_bitCount_0f7a4_11 : decode cJ6_bitCount_0f7a4 11 = .ok (.ldc_w 266, 3) := by decide +kernel
theorem dJ6_bitCount_0f7a4_14 : decode cJ6_bitCount_0f7a4 14 = .ok (.iand, 1) := by decide +kernel
theorem dJ6_bitCount_0f7a4_15 : decode cJ6_bitCount_0f7a4 15 = .ok (.iload_n 0, 1) := by decide +kernel
theorem dJ6_bitCount_0f7a4_16 : decode cJ6_bitCount_0f7a4 16 = .ok (.iconst 2, 1) := by decide +kernel
theorem dJ6_bitCount_0f7a4_17 : decode cJ6_bitCount_0f7a4 17 = .ok (.iushr, 1) := by decide +kernel
theorem dJ6_bitCount_0f7a4_18 : decode cJ6_bitCount_0f7a4 18 = .ok (.ldc_w 266, 3) := by decide +kernel
theorem dJ6_bitCount_0f7a4_21 : decode cJ6_bitCount_0f7a4 21 = .ok (.iand, 1) := by decide +kernel
theorem dJ6_bitCount_0f7a4_22 : decode cJ6_bitCount_0f7a4 22 = .ok (.iadd, 1) := by decide +kernel
theorem dJ6_bitCount_0f7a4_23 : decode cJ6_bitCount_0f7a4 23 = .ok (.istore_n 0, 1) := by decide +kernel
theorem dJ6_bitCount_0f7a4_24 : decode cJ6_bitCount_0f7a4 24 = .ok (.iload_n 0, 1) := by decide +kernel
theorem dJ6_bitCount_0f7a4_25 : decode cJ6_bitCount_0f7a4 25 = .ok (.iload_n 0, 1) := by decide +kernel
theorem dJ6_bitCount_0f7a4_26 : decode cJ6_bitCount_0f7a4 26 = .ok (.iconst 4, 1) := by decide +kernel
theorem dJ6_bitCount_0f7a4_27 : decode cJ6_bitCount_0f7a4 27 = .ok (.iushr, 1) := by decide +kernel
theorem dJ6_bitCount_0f7a4_28 : decode cJ6_bitCount_0f7a4 28 = .ok (.iadd, 1) := by decide +kernel
theorem dJ6_bitCount_0f7a4_29 : decode cJ6_bitCount_0f7a4 29 = .ok (.ldc_w 267, 3) := by decide +kernel
theorem dJ6_bitCount_0f7a4_32 : decode cJ6_bitCount_0f7a4 32 = .ok (.iand, 1) := by decide +kernel
theorem dJ6_bitCount_0f7a4_33 : decode cJ6_bitCount_0f7a4 33 = .ok (.istore_n 0, 1) := by decide +kernel
theorem dJ6_bitCount_0f7a4_34 : decode cJ6_bitCount_0f7a4 34 = .ok (.iload_n 0, 1) := by decide +kernel
theorem dJ6_bitCount_0f7a4_35 : decode cJ6_bitCount_0f7a4 35 = .ok (.iload_n 0, 1) := by decide +kernel
theorem dJ6_bitCount_0f7a4_36 : decode cJ6_bitCount_0f7a4 36 = .ok (.bipush 8, 2) := by decide +kernel
theorem dJ6_bitCount_0f7a4_38 : decode cJ6_bitCount_0f7a4 38 = .ok (.iushr, 1) := by decide +kernel
theorem dJ6_bitCount_0f7a4_39 : decode cJ6_bitCount_0f7a4 39 = .ok (.iadd, 1) := by decide +kernel
theorem dJ6_bitCount_0f7a4_40 : decode cJ6_bitCount_0f7a4 40 = .ok (.istore_n 0, 1) := by decide +kernel
theorem dJ6_bitCount_0f7a4_41 : decode cJ6_bitCount_0f7a4 41 = .ok (.iload_n 0, 1) := by decide +kernel
theorem dJ6_bitCount_0f7a4_42 : decode cJ6_bitCount_0f7a4 42 = .ok (.iload_n 0, 1) := by decide +kernel
theorem dJ6_bitCount_0f7a4_43 : decode cJ6_bitCount_0f7a4 43 = .ok (.bipush 16, 2) := by decide +kernel
theorem dJ6_bitCount_0f7a4_45 : decode cJ6_bitCount_0f7a4 45 = .ok (.iushr, 1) := by decide +kernel
theorem dJ6_bitCount_0f7a4_46 : decode cJ6_bitCount_0f7a4 46 = .ok (.iadd, 1) := by decide +kernel
theorem dJ6_bitCount_0f7a4_47 : decode cJ6_bitCount_0f7a4 47 = .ok (.istore_n 0, 1) := by decide +kernel
theorem dJ6_bitCount_0f7a4_48 : decode cJ6_bitCount_0f7a4 48 = .ok (.iload_n 0, 1) := by decide +kernel
theorem dJ6_bitCount_0f7a4_49 : decode cJ6_bitCount_0f7a4 49 = .ok (.bipush 63, 2) := by decide +kernel
theorem dJ6_bitCount_0f7a4_51 : decode cJ6_bitCount_0f7a4 51 = .ok (.iand, 1) := by decide +kernel
theorem dJ6_bitCount_0f7a4_52 : decode cJ6_bitCount_0f7a4 52 = .ok (.ireturn, 1) := by decide +kernel
set_option maxHeartbeats 4000000 in
set_option maxRecDepth 100000 in
theorem c_J6_bitCount_0f7a4 {l : Launch} {X : En} (x0 : Int32) (M : Mem) (r : Int32) (hf : fn_J6_bitCount_0f7a4 x0 = r) : Cn l X yJ6_bitCount_0f7a4 cJ6_bitCount_0f7a4 1 (some .int) 0 0 [.int x0] M (Qi X r M) := by
  refine Met.ofW (cc := cJ6_bitCount_0f7a4) (maxL := 1) (ret := (some .int)) (by decide) rfl ?_
  intro p e s m args below meth c s₁ B hml hv
  obtain ⟨rfl, hP, hk⟩ := hv
  have hx := B.exec
  have hb := B.bytes
  have hr := B.returns
  have hlocks := B.notSynchronized
  have hts : ∀ w ∈ lw_u, w.before ([.int x0] : List Value).toArray s = true := fun w hw => atoms_spec (ws := Cond.code yJ6_bitCount_0f7a4 cJ6_bitCount_0f7a4 1 (some .int) :: lw_u) B.pre w (List.mem_cons_of_mem _ hw)
  have hown : s.vm.findClass RJ6 = some m.cls := findClass_of_methodNamed B.named
  have hZ : Fx p c m s ([.int x0] : List Value).toArray X cJ6_bitCount_0f7a4 1 RJ6 := ⟨hx, hb, hml, hts, hown, hk⟩
  have hS : va_S X.A s.heap s.heap [] := va_S.rf
  have hl := lv_entry ([.int x0]) (n := 1) (Nat.le_of_ble_eq_true rfl)
  rw [lg_entry_eq]
  generalize (lg_sl ([.int x0]) ++ List.replicate (1 - (lg_sl ([.int x0])).length) Slot.unset).toArray = ls at hl ⊢
  have hl : lv_has ls 1 [(0, .int x0)] := hl
  show WW p l e 0 0 s m [.int x0] below meth c X (Qi X r M) s.heap [] 0 ls []
  have hP : wd X M s.heap := hP
  unfold fn_J6_bitCount_0f7a4 at hf
  have key : ∀ (H : Heap) (locs : List Loc), wd X M H → va_S X.A s.heap H locs → WW p l e 0 0 s m [.int x0] below meth c X (Qi X r M) H locs 0 ls [] := by
    intro H locs hP hS
    refine lv_iload_n hx hb dJ6_bitCount_0f7a4_0 rfl (lv_at hl 0 rfl) ?_
    refine lv_iload_n hx hb dJ6_bitCount_0f7a4_1 rfl (lv_at hl 0 rfl) ?_
    refine lv_iconst (v := (1 : Int32)) hx hb dJ6_bitCount_0f7a4_2 (by decide) ?_
    refine rw_iushr hx hb dJ6_bitCount_0f7a4_3 ?_
    refine lv_ldcw hx hb hown (hts _ wd_3_91) dJ6_bitCount_0f7a4_4 ?_
    refine lv_iand hx hb dJ6_bitCount_0f7a4_7 ?_
    refine lv_isub hx hb dJ6_bitCount_0f7a4_8 ?_
    refine lv_topi (fun v0_1 e_v0_1 => ?_)
    have hf := b_v hf e_v0_1
    refine lv_istore_n (lv' := [(0, .int v0_1)]) hx hb dJ6_bitCount_0f7a4_9 rfl hl (by decide) rfl (fun ls hl => ?_)
    refine lv_iload_n hx hb dJ6_bitCount_0f7a4_10 rfl (lv_at hl 0 rfl) ?_
    refine lv_ldcw hx hb hown (hts _ wd_3_92) dJ6_bitCount_0f7a4_11 ?_
    refine lv_iand hx hb dJ6_bitCount_0f7a4_14 ?_
    refine lv_iload_n hx hb dJ6_bitCount_0f7a4_15 rfl (lv_at hl 0 rfl) ?_
    refine lv_iconst (v := (2 : Int32)) hx hb dJ6_bitCount_0f7a4_16 (by decide) ?_
    refine rw_iushr hx hb dJ6_bitCount_0f7a4_17 ?_
    refine lv_ldcw hx hb hown (hts _ wd_3_92) dJ6_bitCount_0f7a4_18 ?_
    refine lv_iand hx hb dJ6_bitCount_0f7a4_21 ?_
    refine lv_iadd hx hb dJ6_bitCount_0f7a4_22 ?_
    refine lv_topi (fun v0_2 e_v0_2 => ?_)
    have hf := b_v hf e_v0_2
    refine lv_istore_n (lv' := [(0, .int v0_2)]) hx hb dJ6_bitCount_0f7a4_23 rfl hl (by decide) rfl (fun ls hl => ?_)
    refine lv_iload_n hx hb dJ6_bitCount_0f7a4_24 rfl (lv_at hl 0 rfl) ?_
    refine lv_iload_n hx hb dJ6_bitCount_0f7a4_25 rfl (lv_at hl 0 rfl) ?_
    refine lv_iconst (v := (4 : Int32)) hx hb dJ6_bitCount_0f7a4_26 (by decide) ?_
    refine rw_iushr hx hb dJ6_bitCount_0f7a4_27 ?_
    refine lv_iadd hx hb dJ6_bitCount_0f7a4_28 ?_
    refine lv_ldcw hx hb hown (hts _ wd_3_93) dJ6_bitCount_0f7a4_29 ?_
    refine lv_iand hx hb dJ6_bitCount_0f7a4_32 ?_
    refine lv_topi (fun v0_3 e_v0_3 => ?_)
    have hf := b_v hf e_v0_3
    refine lv_istore_n (lv' := [(0, .int v0_3)]) hx hb dJ6_bitCount_0f7a4_33 rfl hl (by decide) rfl (fun ls hl => ?_)
    refine lv_iload_n hx hb dJ6_bitCount_0f7a4_34 rfl (lv_at hl 0 rfl) ?_
    refine lv_iload_n hx hb dJ6_bitCount_0f7a4_35 rfl (lv_at hl 0 rfl) ?_
    refine lv_bipush (v := (8 : Int32)) hx hb dJ6_bitCount_0f7a4_36 (by decide) ?_
    refine rw_iushr hx hb dJ6_bitCount_0f7a4_38 ?_
    refine lv_iadd hx hb dJ6_bitCount_0f7a4_39 ?_
    refine lv_topi (fun v0_4 e_v0_4 => ?_)
    have hf := b_v hf e_v0_4
    refine lv_istore_n (lv' := [(0, .int v0_4)]) hx hb dJ6_bitCount_0f7a4_40 rfl hl (by decide) rfl (fun ls hl => ?_)
    refine lv_iload_n hx hb dJ6_bitCount_0f7a4_41 rfl (lv_at hl 0 rfl) ?_
    refine lv_iload_n hx hb dJ6_bitCount_0f7a4_42 rfl (lv_at hl 0 rfl) ?_
    refine lv_bipush (v := (16 : Int32)) hx hb dJ6_bitCount_0f7a4_43 (by decide) ?_
    refine rw_iushr hx hb dJ6_bitCount_0f7a4_45 ?_
    refine lv_iadd hx hb dJ6_bitCount_0f7a4_46 ?_
    refine lv_topi (fun v0_5 e_v0_5 => ?_)
    have hf := b_v hf e_v0_5
    refine lv_istore_n (lv' := [(0, .int v0_5)]) hx hb dJ6_bitCount_0f7a4_47 rfl hl (by decide) rfl (fun ls hl => ?_)
    refine lv_iload_n hx hb dJ6_bitCount_0f7a4_48 rfl (lv_at hl 0 rfl) ?_
    refine lv_bipush (v := (63 : Int32)) hx hb dJ6_bitCount_0f7a4_49 (by decide) ?_
    refine lv_iand hx hb dJ6_bitCount_0f7a4_51 ?_
    exact ret_i hx hb hr hlocks hP hS hf dJ6_bitCount_0f7a4_52
  exact key s.heap [] hP hS
theorem hd_J6_bitCount_0f7a4 : Hd yJ6_bitCount_0f7a4 1 := by decide +kernel
theorem k_J6_bitCount_0f7a4 {p : Program} {l : Launch} {e : Env} {R : Room} {s : State} {m : MethodId} {args : Array Value} {below : List Frame} {meth : Method} {c : Code} {H : Heap} {locs : List Loc} {cells slots : Nat} {Q : State → Prop} {cc : ByteArray} {nL pc index : Nat} {ls : Array Slot} {rest : List Value} {X : En} {M : Mem} {H0 : Heap} {own : String} {x0 : Int32} (hZ : Fx p c m s args X cc nL own) (hP : wd X M H) (hS : va_S X.A H0 H locs) (hsz : ls.size = nL) (hlk : Cond.methodLink own index yJ6_bitCount_0f7a4 ∈ lw_u) (hR : 0 + 1 ≤ R.frames ∧ 8 + (1 + 11) + 0 ≤ R.locals) (hW : (rest.map fun v => v.category).sum ≤ 8) (hdg : decode cc pc = .ok (.invokestatic index, 3)) (hcs : cells ≤ R.cells ∧ slots ≤ R.slots)
    (kk : ∀ (H1 : Heap) (locs1 : List Loc), wd X M H1 → va_S X.A H0 H1 locs1 → W p l e R s m args below meth c H1 locs1 cells slots Q (F0 m (pc + 3) ls (.int (fn_J6_bitCount_0f7a4 x0) :: rest))) : W p l e R s m args below meth c H locs cells slots Q (F0 m pc ls (.int x0 :: rest)) :=
  cal_i (runS (As := [.int x0]) (rest := rest) hZ.1 hZ.2.1 hZ.2.2.1 hZ.2.2.2.1 hZ.2.2.2.2.1 hZ.2.2.2.2.2 hP (c_J6_bitCount_0f7a4 x0 M _ rfl) wd_3_90 wd_3_89 wd_1_12 hd_J6_bitCount_0f7a4 rfl hlk hR hsz rfl hW hdg hcs) hS kk
/-! FrameRaiser$Relations.smallestGroup -/
def jn_X5_smallestGroup_38 (g : Nat) (k0 : Nat) (s_13 : Int32) (v2_10 : Int32) (v3_11 : Int32) (v4_12 : Int32) (x1 : Int32) (M : Mem) : Option ((Int32 × Int32 × Int32) ⊕ (Int32)) :=
  if s_13 = 0 then
    (some (.inl (v2_10, v3_11, v4_12 + (1 : Int32))))
  else
    ((fn_X5_wayOfGroup g k0 v4_12 x1 M).bind fun r_15 =>
    if r_15 = (-9 : Int32) then
      (some (.inl (v2_10, v3_11, v4_12 + (1 : Int32))))
    else
      (bv (fn_J6_bitCount_0f7a4 v4_12) fun v3_17 =>
      some (.inl (v4_12, v3_17, v4_12 + (1 : Int32)))))
def jn_X5_smallestGroup_37 (g : Nat) (k0 : Nat) (v2_7 : Int32) (v3_8 : Int32) (v4_9 : Int32) (x1 : Int32) (M : Mem) : Option ((Int32 × Int32 × Int32) ⊕ (Int32)) :=
  jn_X5_smallestGroup_38 g k0 (0 : Int32) v2_7 v3_8 v4_9 x1 M
def bd_X5_smallestGroup_9 (g : Nat) (k0 : Nat) (x1 : Int32) (M : Mem) : (Int32 × Int32 × Int32) → Option ((Int32 × Int32 × Int32) ⊕ (Int32)) :=
  u3 fun v2_3 v3_2 v4_1 =>
  if x1 ≤ v4_1 then
    (some (.inr v2_3))
  else
    (if (v4_1 &&& (x1 ^^^ (-1 : Int32))) = 0 then
      (if v3_2 ≤ (fn_J6_bitCount_0f7a4 v4_1) then
        (jn_X5_smallestGroup_37 g k0 v2_3 v3_2 v4_1 x1 M)
      else
        (jn_X5_smallestGroup_38 g k0 (1 : Int32) v2_3 v3_2 v4_1 x1 M))
    else
      (jn_X5_smallestGroup_37 g k0 v2_3 v3_2 v4_1 x1 M))
def fn_X5_smallestGroup (g : Nat) (k0 : Nat) (x1 : Int32) (M : Mem) : Option (Int32) :=
  (lpN g (bd_X5_smallestGroup_9 g k0 x1 M) ((-9 : Int32), (8 : Int32), (1 : Int32))).bind (u1 fun v2_4 =>
    some v2_4)
theorem dX5_smallestGroup_0 : decode cX5_smallestGroup 0 = .ok (.bipush (-9), 2) := by decide +kernel
theorem dX5_smallestGroup_2 : decode cX5_smallestGroup 2 = .ok (.istore_n 2, 1) := by decide +kernel
theorem dX5_smallestGroup_3 : decode cX5_smallestGroup 3 = .ok (.bipush 8, 2) := by decide +kernel
theorem dX5_smallestGroup_5 : decode cX5_smallestGroup 5 = .ok (.istore_n 3, 1) := by decide +kernel
theorem dX5_smallestGroup_6 : decode cX5_smallestGroup 6 = .ok (.iconst 1, 1) := by decide +kernel
theorem dX5_smallestGroup_7 : decode cX5_smallestGroup 7 = .ok (.istore 4, 2) := by decide +kernel
theorem dX5_smallestGroup_9 : decode cX5_smallestGroup 9 = .ok (.iload 4, 2) := by decide +kernel
theorem dX5_smallestGroup_11 : decode cX5_smallestGroup 11 = .ok (.iload_n 1, 1) := by decide +kernel
theorem dX5_smallestGroup_12 : decode cX5_smallestGroup 12 = .ok (.if_icmp .ge 60, 3) := by decide +kernel
theorem dX5_smallestGroup_15 : decode cX5_smallestGroup 15 = .ok (.iload 4, 2) := by decide +kernel
theorem dX5_smallestGroup_17 : decode cX5_smallestGroup 17 = .ok (.iload_n 1, 1) := by decide +kernel
theorem dX5_smallestGroup_18 : decode cX5_smallestGroup 18 = .ok (.iconst (-1), 1) := by decide +kernel
theorem dX5_smallestGroup_19 : decode cX5_smallestGroup 19 = .ok (.ixor, 1) := by decide +kernel
theorem dX5_smallestGroup_20 : decode cX5_smallestGroup 20 = .ok (.iand, 1) := by decide +kernel
theorem dX5_smallestGroup_21 : decode cX5_smallestGroup 21 = .ok (.ifCond .ne 16, 3) := by decide +kernel
theorem dX5_smallestGroup_24 : decode cX5_smallestGroup 24 = .ok (.iload 4, 2) := by decide +kernel
theorem dX5_smallestGroup_26 : decode cX5_smallestGroup 26 = .ok (.invokestatic 71, 3) := by decide +kernel
theorem dX5_smallestGroup_29 : decode cX5_smallestGroup 29 = .ok (.iload_n 3, 1) := by decide +kernel
theorem dX5_smallestGroup_30 : decode cX5_smallestGroup 30 = .ok (.if_icmp .ge 7, 3) := by decide +kernel
theorem dX5_smallestGroup_33 : decode cX5_smallestGroup 33 = .ok (.iconst 1, 1) := by decide +kernel
theorem dX5_smallestGroup_34 : decode cX5_smallestGroup 34 = .ok (.goto 4, 3) := by decide +kernel
theorem dX5_smallestGroup_37 : decode cX5_smallestGroup 37 = .ok (.iconst 0, 1) := by decide +kernel
theorem dX5_smallestGroup_38 : decode cX5_smallestGroup 38 = .ok (.istore 5, 2) := by decide +kernel
theorem dX5_smallestGroup_40 : decode cX5_smallestGroup 40 = .ok (.iload 5, 2) := by decide +kernel
theorem dX5_smallestGroup_42 : decode cX5_smallestGroup 42 = .ok (.ifCond .eq 24, 3) := by decide +kernel
theorem dX5_smallestGroup_45 : decode cX5_smallestGroup 45 = .ok (.aload_n 0, 1) := by decide +kernel
theorem dX5_smallestGroup_46 : decode cX5_smallestGroup 46 = .ok (.iload 4, 2) := by decide +kernel
theorem dX5_smallestGroup_48 : decode cX5_smallestGroup 48 = .ok (.iload_n 1, 1) := by decide +kernel
theorem dX5_smallestGroup_49 : decode cX5_smallestGroup 49 = .ok (.invokevirtual 76, 3) := by decide +kernel
theorem dX5_smallestGroup_52 : decode cX5_smallestGroup 52 = .ok (.bipush (-9), 2) := by decide +kernel
theorem dX5_smallestGroup_54 : decode cX5_smallestGroup 54 = .ok (.if_icmp .eq 12, 3) := by decide +kernel
theorem dX5_smallestGroup_57 : decode cX5_smallestGroup 57 = .ok (.iload 4, 2) := by decide +kernel
theorem dX5_smallestGroup_59 : decode cX5_smallestGroup 59 = .ok (.istore_n 2, 1) := by decide +kernel
theorem dX5_smallestGroup_60 : decode cX5_smallestGroup 60 = .ok (.iload 4, 2) := by decide +kernel
theorem dX5_smallestGroup_62 : decode cX5_smallestGroup 62 = .ok (.invokestatic 71, 3) := by decide +kernel
theorem dX5_smallestGroup_65 : decode cX5_smallestGroup 65 = .ok (.istore_n 3, 1) := by decide +kernel
theorem dX5_smallestGroup_66 : decode cX5_smallestGroup 66 = .ok (.iinc 4 1, 3) := by decide +kernel
theorem dX5_smallestGroup_69 : decode cX5_smallestGroup 69 = .ok (.goto (-60), 3) := by decide +kernel
theorem dX5_smallestGroup_72 : decode cX5_smallestGroup 72 = .ok (.iload_n 2, 1) := by decide +kernel
theorem dX5_smallestGroup_73 : decode cX5_smallestGroup 73 = .ok (.ireturn, 1) := by decide +kernel
set_option maxHeartbeats 4000000 in
set_option maxRecDepth 100000 in
theorem c_X5_smallestGroup {l : Launch} {X : En} (g : Nat) (k0 : Nat) (x1 : Int32) (M : Mem) (hk0 : isR k0) (r : Int32) (hf : fn_X5_smallestGroup g k0 x1 M = some r) : Cn l X yX5_smallestGroup cX5_smallestGroup 6 (some .int) 3 70 [.ref (X.ad k0), .int x1] M (Qi X r M) := by
  refine Met.ofW (cc := cX5_smallestGroup) (maxL := 6) (ret := (some .int)) (by decide) rfl ?_
  intro p e s m args below meth c s₁ B hml hv
  obtain ⟨rfl, hP, hk⟩ := hv
  have hx := B.exec
  have hb := B.bytes
  have hr := B.returns
  have hlocks := B.notSynchronized
  have hts : ∀ w ∈ lw_u, w.before ([.ref (X.ad k0), .int x1] : List Value).toArray s = true := fun w hw => atoms_spec (ws := Cond.code yX5_smallestGroup cX5_smallestGroup 6 (some .int) :: lw_u) B.pre w (List.mem_cons_of_mem _ hw)
  have hown : s.vm.findClass RX5 = some m.cls := findClass_of_methodNamed B.named
  have hZ : Fx p c m s ([.ref (X.ad k0), .int x1] : List Value).toArray X cX5_smallestGroup 6 RX5 := ⟨hx, hb, hml, hts, hown, hk⟩
  have hS : va_S X.A s.heap s.heap [] := va_S.rf
  have hl := lv_entry ([.ref (X.ad k0), .int x1]) (n := 6) (Nat.le_of_ble_eq_true rfl)
  rw [lg_entry_eq]
  generalize (lg_sl ([.ref (X.ad k0), .int x1]) ++ List.replicate (6 - (lg_sl ([.ref (X.ad k0), .int x1])).length) Slot.unset).toArray = ls at hl ⊢
  have hl : lv_has ls 6 [(0, .ref (X.ad k0)), (1, .int x1)] := hl
  show WW p l e 3 70 s m [.ref (X.ad k0), .int x1] below meth c X (Qi X r M) s.heap [] 0 ls []
  have hP : wd X M s.heap := hP
  unfold fn_X5_smallestGroup at hf
  have key : ∀ (H : Heap) (locs : List Loc), wd X M H → va_S X.A s.heap H locs → WW p l e 3 70 s m [.ref (X.ad k0), .int x1] below meth c X (Qi X r M) H locs 0 ls [] := by
    intro H locs hP hS
    refine lv_bipush (v := (-9 : Int32)) hx hb dX5_smallestGroup_0 (by decide) ?_
    refine lv_istore_n (lv' := [(2, .int (-9 : Int32)), (0, .ref (X.ad k0)), (1, .int x1)]) hx hb dX5_smallestGroup_2 rfl hl (by decide) rfl (fun ls hl => ?_)
    refine lv_bipush (v := (8 : Int32)) hx hb dX5_smallestGroup_3 (by decide) ?_
    refine lv_istore_n (lv' := [(3, .int (8 : Int32)), (2, .int (-9 : Int32)), (0, .ref (X.ad k0)), (1, .int x1)]) hx hb dX5_smallestGroup_5 rfl hl (by decide) rfl (fun ls hl => ?_)
    refine lv_iconst (v := (1 : Int32)) hx hb dX5_smallestGroup_6 (by decide) ?_
    refine lv_istore (lv' := [(4, .int (1 : Int32)), (3, .int (8 : Int32)), (2, .int (-9 : Int32)), (0, .ref (X.ad k0)), (1, .int x1)]) hx hb dX5_smallestGroup_7 hl (by decide) rfl (fun ls hl => ?_)
    obtain ⟨o9, ho9, hf⟩ := b_d hf
    refine lp_rule (b := bd_X5_smallestGroup_9 g k0 x1 M) (P := fun w : Int32 × Int32 × Int32 => ∀ (H : Heap) (locs : List Loc) (ls : Array Slot), wd X M H → va_S X.A s.heap H locs → lv_has ls 6 [(4, .int w.2.2), (3, .int w.2.1), (2, .int w.1), (0, .ref (X.ad k0)), (1, .int x1)] → WW p l e 3 70 s m [.ref (X.ad k0), .int x1] below meth c X (Qi X r M) H locs 9 ls []) (K := fun o => ∀ (v2_4 : Int32), o = v2_4 → ∀ (H : Heap) (locs : List Loc) (ls : Array Slot), wd X M H → va_S X.A s.heap H locs → lv_has ls 6 [(2, .int v2_4)] → WW p l e 3 70 s m [.ref (X.ad k0), .int x1] below meth c X (Qi X r M) H locs 72 ls []) ?_ g ((-9 : Int32), (8 : Int32), (1 : Int32)) o9 ho9 ?_ H locs ls hP hS (lv_sub hl [0, 1, 2, 3, 4] rfl)
    · rintro ⟨v2_3, v3_2, v4_1⟩ o hf hkc9 hke9 H locs ls hP hS hl
      have hf := u3_e hf
      have jn38 : ∀ (v2_10 : Int32) (v3_11 : Int32) (v4_12 : Int32) (s_13 : Int32), jn_X5_smallestGroup_38 g k0 s_13 v2_10 v3_11 v4_12 x1 M = some o → ∀ (H : Heap) (locs : List Loc) (ls : Array Slot), wd X M H → va_S X.A s.heap H locs → lv_has ls 6 [(0, .ref (X.ad k0)), (1, .int x1), (2, .int v2_10), (3, .int v3_11), (4, .int v4_12)] → WW p l e 3 70 s m [.ref (X.ad k0), .int x1] below meth c X (Qi X r M) H locs 38 ls [.int s_13] := by
        intro v2_10 v3_11 v4_12 s_13  hf H locs ls hP hS hl
        unfold jn_X5_smallestGroup_38 at hf
        refine lv_istore (lv' := [(5, .int s_13), (0, .ref (X.ad k0)), (1, .int x1), (2, .int v2_10), (3, .int v3_11), (4, .int v4_12)]) hx hb dX5_smallestGroup_38 hl (by decide) rfl (fun ls hl => ?_)
        refine lv_iload hx hb dX5_smallestGroup_40 (lv_at hl 0 rfl) ?_
        refine lv_if_eq (tgt := 66) hx hb dX5_smallestGroup_42 (by decide) (fun c_14 => ?_) (fun c_14 => ?_)
        · have hf := i_t c_14 hf
          refine lv_iinc (v := v4_12 + (1 : Int32)) (lv' := [(4, .int (v4_12 + (1 : Int32))), (5, .int s_13), (0, .ref (X.ad k0)), (1, .int x1), (2, .int v2_10), (3, .int v3_11)]) hx hb dX5_smallestGroup_66 hl (k := 5) rfl rfl (by decide) rfl (fun ls hl => ?_)
          refine lv_goto (tgt := 9) hx hb dX5_smallestGroup_69 (by decide) ?_
          exact hkc9 _ (Option.some.inj hf).symm H locs ls hP hS (lv_sub hl [0, 5, 4, 2, 3] rfl)
        · have hf := i_f c_14 hf
          refine lv_aload_n hx hb dX5_smallestGroup_45 rfl (lv_at hl 1 rfl) ?_
          refine lv_iload hx hb dX5_smallestGroup_46 (lv_at hl 5 rfl) ?_
          refine lv_iload_n hx hb dX5_smallestGroup_48 rfl (lv_at hl 2 rfl) ?_
          obtain ⟨r_15, h_r_15, hf⟩ := b_d hf
          refine k_X5_wayOfGroup hZ hP hS hl.1 wd_3_94 ⟨Nat.le_of_ble_eq_true rfl, Nat.le_of_ble_eq_true rfl⟩ (Nat.le_of_ble_eq_true rfl) dX5_smallestGroup_49 ⟨Nat.zero_le _, Nat.zero_le _⟩ hk0 h_r_15 (fun H locs hP hS => ?_)
          refine lv_bipush (v := (-9 : Int32)) hx hb dX5_smallestGroup_52 (by decide) ?_
          refine lv_icmp_eq (tgt := 66) hx hb dX5_smallestGroup_54 (by decide) (fun c_16 => ?_) (fun c_16 => ?_)
          · have hf := i_t c_16 hf
            refine lv_iinc (v := v4_12 + (1 : Int32)) (lv' := [(4, .int (v4_12 + (1 : Int32))), (5, .int s_13), (0, .ref (X.ad k0)), (1, .int x1), (2, .int v2_10), (3, .int v3_11)]) hx hb dX5_smallestGroup_66 hl (k := 5) rfl rfl (by decide) rfl (fun ls hl => ?_)
            refine lv_goto (tgt := 9) hx hb dX5_smallestGroup_69 (by decide) ?_
            exact hkc9 _ (Option.some.inj hf).symm H locs ls hP hS (lv_sub hl [0, 5, 4, 2, 3] rfl)
          · have hf := i_f c_16 hf
            refine lv_iload hx hb dX5_smallestGroup_57 (lv_at hl 5 rfl) ?_
            refine lv_istore_n (lv' := [(2, .int v4_12), (5, .int s_13), (0, .ref (X.ad k0)), (1, .int x1), (3, .int v3_11), (4, .int v4_12)]) hx hb dX5_smallestGroup_59 rfl hl (by decide) rfl (fun ls hl => ?_)
            refine lv_iload hx hb dX5_smallestGroup_60 (lv_at hl 5 rfl) ?_
            refine k_J6_bitCount_0f7a4 hZ hP hS hl.1 wd_3_88 ⟨Nat.le_of_ble_eq_true rfl, Nat.le_of_ble_eq_true rfl⟩ (Nat.le_of_ble_eq_true rfl) dX5_smallestGroup_62 ⟨Nat.zero_le _, Nat.zero_le _⟩ (fun H locs hP hS => ?_)
            refine lv_topi (fun v3_17 e_v3_17 => ?_)
            have hf := b_v hf e_v3_17
            refine lv_istore_n (lv' := [(3, .int v3_17), (2, .int v4_12), (5, .int s_13), (0, .ref (X.ad k0)), (1, .int x1), (4, .int v4_12)]) hx hb dX5_smallestGroup_65 rfl hl (by decide) rfl (fun ls hl => ?_)
            refine lv_iinc (v := v4_12 + (1 : Int32)) (lv' := [(4, .int (v4_12 + (1 : Int32))), (3, .int v3_17), (2, .int v4_12), (5, .int s_13), (0, .ref (X.ad k0)), (1, .int x1)]) hx hb dX5_smallestGroup_66 hl (k := 5) rfl rfl (by decide) rfl (fun ls hl => ?_)
            refine lv_goto (tgt := 9) hx hb dX5_smallestGroup_69 (by decide) ?_
            exact hkc9 _ (Option.some.inj hf).symm H locs ls hP hS (lv_sub hl [0, 1, 2, 4, 5] rfl)
      have jn37 : ∀ (v2_7 : Int32) (v3_8 : Int32) (v4_9 : Int32), jn_X5_smallestGroup_37 g k0 v2_7 v3_8 v4_9 x1 M = some o → ∀ (H : Heap) (locs : List Loc) (ls : Array Slot), wd X M H → va_S X.A s.heap H locs → lv_has ls 6 [(0, .ref (X.ad k0)), (1, .int x1), (2, .int v2_7), (3, .int v3_8), (4, .int v4_9)] → WW p l e 3 70 s m [.ref (X.ad k0), .int x1] below meth c X (Qi X r M) H locs 37 ls [] := by
        intro v2_7 v3_8 v4_9  hf H locs ls hP hS hl
        unfold jn_X5_smallestGroup_37 at hf
        refine lv_iconst (v := (0 : Int32)) hx hb dX5_smallestGroup_37 (by decide) ?_
        exact jn38 v2_7 v3_8 v4_9 (0 : Int32) hf H locs ls hP hS (lv_sub hl [0, 1, 2, 3, 4] rfl)
      refine lv_iload hx hb dX5_smallestGroup_9 (lv_at hl 0 rfl) ?_
      refine lv_iload_n hx hb dX5_smallestGroup_11 rfl (lv_at hl 4 rfl) ?_
      refine lv_icmp_ge (tgt := 72) hx hb dX5_smallestGroup_12 (by decide) (fun c_5 => ?_) (fun c_5 => ?_)
      · have hf := i_t c_5 hf
        exact hke9 _ (Option.some.inj hf).symm _ rfl H locs ls hP hS (lv_sub hl [2] rfl)
      · have hf := i_f c_5 hf
        refine lv_iload hx hb dX5_smallestGroup_15 (lv_at hl 0 rfl) ?_
        refine lv_iload_n hx hb dX5_smallestGroup_17 rfl (lv_at hl 4 rfl) ?_
        refine lv_iconst (v := (-1 : Int32)) hx hb dX5_smallestGroup_18 (by decide) ?_
        refine lv_ixor hx hb dX5_smallestGroup_19 ?_
        refine lv_iand hx hb dX5_smallestGroup_20 ?_
        refine lv_if_ne (tgt := 37) hx hb dX5_smallestGroup_21 (by decide) (fun c_6 => ?_) (fun c_6 => ?_)
        · have hf := i_f c_6 hf
          exact jn37 v2_3 v3_2 v4_1 hf H locs ls hP hS (lv_sub hl [3, 4, 2, 1, 0] rfl)
        · have hf := i_t c_6 hf
          refine lv_iload hx hb dX5_smallestGroup_24 (lv_at hl 0 rfl) ?_
          refine k_J6_bitCount_0f7a4 hZ hP hS hl.1 wd_3_88 ⟨Nat.le_of_ble_eq_true rfl, Nat.le_of_ble_eq_true rfl⟩ (Nat.le_of_ble_eq_true rfl) dX5_smallestGroup_26 ⟨Nat.zero_le _, Nat.zero_le _⟩ (fun H locs hP hS => ?_)
          refine lv_iload_n hx hb dX5_smallestGroup_29 rfl (lv_at hl 1 rfl) ?_
          refine lv_icmp_ge (tgt := 37) hx hb dX5_smallestGroup_30 (by decide) (fun c_18 => ?_) (fun c_18 => ?_)
          · have hf := i_t c_18 hf
            exact jn37 v2_3 v3_2 v4_1 hf H locs ls hP hS (lv_sub hl [3, 4, 2, 1, 0] rfl)
          · have hf := i_f c_18 hf
            refine lv_iconst (v := (1 : Int32)) hx hb dX5_smallestGroup_33 (by decide) ?_
            refine lv_goto (tgt := 38) hx hb dX5_smallestGroup_34 (by decide) ?_
            exact jn38 v2_3 v3_2 v4_1 (1 : Int32) hf H locs ls hP hS (lv_sub hl [3, 4, 2, 1, 0] rfl)
    · intro v2_4 e H locs ls hP hS hl
      subst o9
      have hf := u1_e hf
      refine lv_iload_n hx hb dX5_smallestGroup_72 rfl (lv_at hl 0 rfl) ?_
      have hf := Option.some.inj hf
      exact ret_i hx hb hr hlocks hP hS hf dX5_smallestGroup_73
  exact key s.heap [] hP hS
theorem hd_X5_smallestGroup : Hd yX5_smallestGroup 1 := by decide +kernel
theorem k_X5_smallestGroup {p : Program} {l : Launch} {e : Env} {R : Room} {s : State} {m : MethodId} {args : Array Value} {below : List Frame} {meth : Method} {c : Code} {H : Heap} {locs : List Loc} {cells slots : Nat} {Q : State → Prop} {cc : ByteArray} {nL pc index : Nat} {ls : Array Slot} {rest : List Value} {X : En} {M : Mem} {H0 : Heap} {own : String} {g : Nat} {k0 : Nat} {x1 : Int32} {r : Int32} (hZ : Fx p c m s args X cc nL own) (hP : wd X M H) (hS : va_S X.A H0 H locs) (hsz : ls.size = nL) (hlk : Cond.methodLink own index yX5_smallestGroup ∈ lw_u) (hR : 3 + 1 ≤ R.frames ∧ 8 + (6 + 11) + 70 ≤ R.locals) (hW : (rest.map fun v => v.category).sum ≤ 8) (hdg : decode cc pc = .ok (.invokevirtual index, 3)) (hcs : cells ≤ R.cells ∧ slots ≤ R.slots) (hk0 : isR k0) (hf : fn_X5_smallestGroup g k0 x1 M = some r)
    (kk : ∀ (H1 : Heap) (locs1 : List Loc), wd X M H1 → va_S X.A H0 H1 locs1 → W p l e R s m args below meth c H1 locs1 cells slots Q (F0 m (pc + 3) ls (.int r :: rest))) : W p l e R s m args below meth c H locs cells slots Q (F0 m pc ls (.int x1 :: .ref (X.ad k0) :: rest)) :=
  cal_i (runV (As := [.int x1]) (rest := rest) hZ.1 hZ.2.1 hZ.2.2.1 hZ.2.2.2.1 hZ.2.2.2.2.1 hZ.2.2.2.2.2 hP (c_X5_smallestGroup g k0 x1 M hk0 r hf) wd_3_87 wd_3_85 wd_3_86 wd_1_4 hd_X5_smallestGroup (isR_lt0 hk0) (rd_R0 hk0 _) rfl rfl hlk hR hsz rfl hW hdg hcs) hS kk
/-! FrameRaiser.firstGroup -/
def fn_X7_firstGroup (g : Nat) (x1 : Int32) (x2 : Int32) (M : Mem) : Option (Int32 × Mem) :=
  if (fn_X7_isSet x1 M) = 0 then
    (some ((-1 : Int32), M))
  else
    ((fn_X7_knownRelations g M).bind fun M_2 =>
    (fn_X5_smallestGroup g 9 x1 M_2).bind fun r_3 =>
    if r_3 = (-9 : Int32) then
      (some ((-9 : Int32), M_2))
    else
      (if x2 = 0 then
        (some (r_3, M_2))
      else
        ((fn_X5_wayOfGroup g 9 r_3 x1 M_2).bind fun r_6 =>
        some (r_6, M_2))))
theorem dX7_firstGroup_0 : decode cX7_firstGroup 0 = .ok (.aload_n 0, 1) := by decide +kernel
theorem dX7_firstGroup_1 : decode cX7_firstGroup 1 = .ok (.iload_n 1, 1) := by decide +kernel
theorem dX7_firstGroup_2 : decode cX7_firstGroup 2 = .ok (.invokevirtual 167, 3) := by decide +kernel
theorem dX7_firstGroup_5 : decode cX7_firstGroup 5 = .ok (.ifCond .ne 5, 3) := by decide +kernel
theorem dX7_firstGroup_8 : decode cX7_firstGroup 8 = .ok (.iconst (-1), 1) := by decide +kernel
theorem dX7_firstGroup_9 : decode cX7_firstGroup 9 = .ok (.ireturn, 1) := by decide +kernel
theorem dX7_firstGroup_10 : decode cX7_firstGroup 10 = .ok (.aload_n 0, 1) := by decide +kernel
theorem dX7_firstGroup_11 : decode cX7_firstGroup 11 = .ok (.invokevirtual 160, 3) := by decide +kernel
theorem dX7_firstGroup_14 : decode cX7_firstGroup 14 = .ok (.astore_n 3, 1) := by decide +kernel
theorem dX7_firstGroup_15 : decode cX7_firstGroup 15 = .ok (.aload_n 3, 1) := by decide +kernel
theorem dX7_firstGroup_16 : decode cX7_firstGroup 16 = .ok (.iload_n 1, 1) := by decide +kernel
theorem dX7_firstGroup_17 : decode cX7_firstGroup 17 = .ok (.invokevirtual 212, 3) := by decide +kernel
theorem dX7_firstGroup_20 : decode cX7_firstGroup 20 = .ok (.istore 4, 2) := by decide +kernel
theorem dX7_firstGroup_22 : decode cX7_firstGroup 22 = .ok (.iload 4, 2) := by decide +kernel
theorem dX7_firstGroup_24 : decode cX7_firstGroup 24 = .ok (.bipush (-9), 2) := by decide +kernel
theorem dX7_firstGroup_26 : decode cX7_firstGroup 26 = .ok (.if_icmp .ne 6, 3) := by decide +kernel
theorem dX7_firstGroup_29 : decode cX7_firstGroup 29 = .ok (.bipush (-9), 2) := by decide +kernel
theorem dX7_firstGroup_31 : decode cX7_firstGroup 31 = .ok (.ireturn, 1) := by decide +kernel
theorem dX7_firstGroup_32 : decode cX7_firstGroup 32 = .ok (.iload_n 2, 1) := by decide +kernel
theorem dX7_firstGroup_33 : decode cX7_firstGroup 33 = .ok (.ifCond .eq 13, 3) := by decide +kernel
theorem dX7_firstGroup_36 : decode cX7_firstGroup 36 = .ok (.aload_n 3, 1) := by decide +kernel
theorem dX7_firstGroup_37 : decode cX7_firstGroup 37 = .ok (.iload 4, 2) := by decide +kernel
theorem dX7_firstGroup_39 : decode cX7_firstGroup 39 = .ok (.iload_n 1, 1) := by decide +kernel
theorem dX7_firstGroup_40 : decode cX7_firstGroup 40 = .ok (.invokevirtual 215, 3) := by decide +kernel
theorem dX7_firstGroup_43 : decode cX7_firstGroup 43 = .ok (.goto 5, 3) := by decide +kernel
theorem dX7_firstGroup_46 : decode cX7_firstGroup 46 = .ok (.iload 4, 2) := by decide +kernel
theorem dX7_firstGroup_48 : decode cX7_firstGroup 48 = .ok (.ireturn, 1) := by decide +kernel
set_option maxHeartbeats 4000000 in
set_option maxRecDepth 100000 in
theorem c_X7_firstGroup {l : Launch} {X : En} (g : Nat) (x1 : Int32) (x2 : Int32) (M : Mem) (r : Int32) (M9 : Mem) (hf : fn_X7_firstGroup g x1 x2 M = some (r, M9)) : Cn l X yX7_firstGroup cX7_firstGroup 5 (some .int) 4 96 [.ref (X.ad 0), .int x1, .int x2] M (Qi X r M9) := by
  refine Met.ofW (cc := cX7_firstGroup) (maxL := 5) (ret := (some .int)) (by decide) rfl ?_
  intro p e s m args below meth c s₁ B hml hv
  obtain ⟨rfl, hP, hk⟩ := hv
  have hx := B.exec
  have hb := B.bytes
  have hr := B.returns
  have hlocks := B.notSynchronized
  have hts : ∀ w ∈ lw_u, w.before ([.ref (X.ad 0), .int x1, .int x2] : List Value).toArray s = true := fun w hw => atoms_spec (ws := Cond.code yX7_firstGroup cX7_firstGroup 5 (some .int) :: lw_u) B.pre w (List.mem_cons_of_mem _ hw)
  have hown : s.vm.findClass RX7 = some m.cls := findClass_of_methodNamed B.named
  have hZ : Fx p c m s ([.ref (X.ad 0), .int x1, .int x2] : List Value).toArray X cX7_firstGroup 5 RX7 := ⟨hx, hb, hml, hts, hown, hk⟩
  have hS : va_S X.A s.heap s.heap [] := va_S.rf
  have hl := lv_entry ([.ref (X.ad 0), .int x1, .int x2]) (n := 5) (Nat.le_of_ble_eq_true rfl)
  rw [lg_entry_eq]
  generalize (lg_sl ([.ref (X.ad 0), .int x1, .int x2]) ++ List.replicate (5 - (lg_sl ([.ref (X.ad 0), .int x1, .int x2])).length) Slot.unset).toArray = ls at hl ⊢
  have hl : lv_has ls 5 [(0, .ref (X.ad 0)), (1, .int x1), (2, .int x2)] := hl
  show WW p l e 4 96 s m [.ref (X.ad 0), .int x1, .int x2] below meth c X (Qi X r M9) s.heap [] 0 ls []
  have hP : wd X M s.heap := hP
  unfold fn_X7_firstGroup at hf
  have key : ∀ (H : Heap) (locs : List Loc), wd X M H → va_S X.A s.heap H locs → WW p l e 4 96 s m [.ref (X.ad 0), .int x1, .int x2] below meth c X (Qi X r M9) H locs 0 ls [] := by
    intro H locs hP hS
    refine lv_aload_n hx hb dX7_firstGroup_0 rfl (lv_at hl 0 rfl) ?_
    refine lv_iload_n hx hb dX7_firstGroup_1 rfl (lv_at hl 1 rfl) ?_
    refine k_X7_isSet hZ hP hS hl.1 wd_2_221 ⟨Nat.le_of_ble_eq_true rfl, Nat.le_of_ble_eq_true rfl⟩ (Nat.le_of_ble_eq_true rfl) dX7_firstGroup_2 ⟨Nat.zero_le _, Nat.zero_le _⟩ (fun H locs hP hS => ?_)
    refine lv_if_ne (tgt := 10) hx hb dX7_firstGroup_5 (by decide) (fun c_1 => ?_) (fun c_1 => ?_)
    · have hf := i_f c_1 hf
      refine lv_aload_n hx hb dX7_firstGroup_10 rfl (lv_at hl 0 rfl) ?_
      obtain ⟨M_2, h_M_2, hf⟩ := b_d hf
      refine k_X7_knownRelations hZ hP hS hl.1 wd_2_185 ⟨Nat.le_of_ble_eq_true rfl, Nat.le_of_ble_eq_true rfl⟩ (Nat.le_of_ble_eq_true rfl) dX7_firstGroup_11 ⟨Nat.zero_le _, Nat.zero_le _⟩ h_M_2 (fun H locs hP hS => ?_)
      refine lv_astore_n (lv' := [(3, .ref (X.ad 9)), (0, .ref (X.ad 0)), (1, .int x1), (2, .int x2)]) hx hb dX7_firstGroup_14 rfl hl (by decide) rfl (fun ls hl => ?_)
      refine lv_aload_n hx hb dX7_firstGroup_15 rfl (lv_at hl 0 rfl) ?_
      refine lv_iload_n hx hb dX7_firstGroup_16 rfl (lv_at hl 2 rfl) ?_
      obtain ⟨r_3, h_r_3, hf⟩ := b_d hf
      refine k_X5_smallestGroup hZ hP hS hl.1 wd_3_84 ⟨Nat.le_of_ble_eq_true rfl, Nat.le_of_ble_eq_true rfl⟩ (Nat.le_of_ble_eq_true rfl) dX7_firstGroup_17 ⟨Nat.zero_le _, Nat.zero_le _⟩ isR_9 h_r_3 (fun H locs hP hS => ?_)
      refine lv_istore (lv' := [(4, .int r_3), (3, .ref (X.ad 9)), (0, .ref (X.ad 0)), (1, .int x1), (2, .int x2)]) hx hb dX7_firstGroup_20 hl (by decide) rfl (fun ls hl => ?_)
      refine lv_iload hx hb dX7_firstGroup_22 (lv_at hl 0 rfl) ?_
      refine lv_bipush (v := (-9 : Int32)) hx hb dX7_firstGroup_24 (by decide) ?_
      refine lv_icmp_ne (tgt := 32) hx hb dX7_firstGroup_26 (by decide) (fun c_4 => ?_) (fun c_4 => ?_)
      · have hf := i_f c_4 hf
        refine lv_iload_n hx hb dX7_firstGroup_32 rfl (lv_at hl 4 rfl) ?_
        refine lv_if_eq (tgt := 46) hx hb dX7_firstGroup_33 (by decide) (fun c_5 => ?_) (fun c_5 => ?_)
        · have hf := i_t c_5 hf
          refine lv_iload hx hb dX7_firstGroup_46 (lv_at hl 0 rfl) ?_
          have hf := Option.some.inj hf
          obtain ⟨e1, e2⟩ := Prod.mk.inj hf
          rw [e2] at hP
          exact ret_i hx hb hr hlocks hP hS e1 dX7_firstGroup_48
        · have hf := i_f c_5 hf
          refine lv_aload_n hx hb dX7_firstGroup_36 rfl (lv_at hl 1 rfl) ?_
          refine lv_iload hx hb dX7_firstGroup_37 (lv_at hl 0 rfl) ?_
          refine lv_iload_n hx hb dX7_firstGroup_39 rfl (lv_at hl 3 rfl) ?_
          obtain ⟨r_6, h_r_6, hf⟩ := b_d hf
          refine k_X5_wayOfGroup hZ hP hS hl.1 wd_3_102 ⟨Nat.le_of_ble_eq_true rfl, Nat.le_of_ble_eq_true rfl⟩ (Nat.le_of_ble_eq_true rfl) dX7_firstGroup_40 ⟨Nat.zero_le _, Nat.zero_le _⟩ isR_9 h_r_6 (fun H locs hP hS => ?_)
          refine lv_goto (tgt := 48) hx hb dX7_firstGroup_43 (by decide) ?_
          have hf := Option.some.inj hf
          obtain ⟨e1, e2⟩ := Prod.mk.inj hf
          rw [e2] at hP
          exact ret_i hx hb hr hlocks hP hS e1 dX7_firstGroup_48
      · have hf := i_t c_4 hf
        refine lv_bipush (v := (-9 : Int32)) hx hb dX7_firstGroup_29 (by decide) ?_
        have hf := Option.some.inj hf
        obtain ⟨e1, e2⟩ := Prod.mk.inj hf
        rw [e2] at hP
        exact ret_i hx hb hr hlocks hP hS e1 dX7_firstGroup_31
    · have hf := i_t c_1 hf
      refine lv_iconst (v := (-1 : Int32)) hx hb dX7_firstGroup_8 (by decide) ?_
      have hf := Option.some.inj hf
      obtain ⟨e1, e2⟩ := Prod.mk.inj hf
      rw [e2] at hP
      exact ret_i hx hb hr hlocks hP hS e1 dX7_firstGroup_9
  exact key s.heap [] hP hS
theorem hd_X7_firstGroup : Hd yX7_firstGroup 2 := by decide +kernel
theorem k_X7_firstGroup {p : Program} {l : Launch} {e : Env} {R : Room} {s : State} {m : MethodId} {args : Array Value} {below : List Frame} {meth : Method} {c : Code} {H : Heap} {locs : List Loc} {cells slots : Nat} {Q : State → Prop} {cc : ByteArray} {nL pc index : Nat} {ls : Array Slot} {rest : List Value} {X : En} {M : Mem} {H0 : Heap} {own : String} {g : Nat} {x1 : Int32} {x2 : Int32} {r : Int32} {M9 : Mem} (hZ : Fx p c m s args X cc nL own) (hP : wd X M H) (hS : va_S X.A H0 H locs) (hsz : ls.size = nL) (hlk : Cond.methodLink own index yX7_firstGroup ∈ lw_u) (hR : 4 + 1 ≤ R.frames ∧ 8 + (5 + 11) + 96 ≤ R.locals) (hW : (rest.map fun v => v.category).sum ≤ 8) (hdg : decode cc pc = .ok (.invokevirtual index, 3)) (hcs : cells ≤ R.cells ∧ slots ≤ R.slots) (hf : fn_X7_firstGroup g x1 x2 M = some (r, M9))
    (kk : ∀ (H1 : Heap) (locs1 : List Loc), wd X M9 H1 → va_S X.A H0 H1 locs1 → W p l e R s m args below meth c H1 locs1 cells slots Q (F0 m (pc + 3) ls (.int r :: rest))) : W p l e R s m args below meth c H locs cells slots Q (F0 m pc ls (.int x2 :: .int x1 :: .ref (X.ad 0) :: rest)) :=
  cal_i (runV (As := [.int x1, .int x2]) (rest := rest) hZ.1 hZ.2.1 hZ.2.2.1 hZ.2.2.2.1 hZ.2.2.2.2.1 hZ.2.2.2.2.2 hP (c_X7_firstGroup g x1 x2 M r M9 hf) wd_3_83 wd_3_81 wd_3_82 wd_1_1 hd_X7_firstGroup (by decide) rfl rfl rfl hlk hR hsz rfl hW hdg hcs) hS kk
/-! FrameRaiser$Frame.turn -/
def fn_X1_turn (k0 : Nat) (x1 : Int32) (M : Mem) : Option (Mem) :=
  bv (st M k0 3 ((M k0 3) ^^^ (sl (1 : Int32) x1))) fun M_1 =>
  bv (st M_1 k0 4 ((M_1 k0 4) + (1 : Int32))) fun M_2 =>
  some M_2
theorem dX1_turn_0 : decode cX1_turn 0 = .ok (.aload_n 0, 1) := by decide +kernel
theorem dX1_turn_1 : decode cX1_turn 1 = .ok (.dup, 1) := by decide +kernel
theorem dX1_turn_2 : decode cX1_turn 2 = .ok (.getfield 25, 3) := by decide +kernel
theorem dX1_turn_5 : decode cX1_turn 5 = .ok (.iconst 1, 1) := by decide +kernel
theorem dX1_turn_6 : decode cX1_turn 6 = .ok (.iload_n 1, 1) := by decide +kernel
theorem dX1_turn_7 : decode cX1_turn 7 = .ok (.ishl, 1) := by decide +kernel
theorem dX1_turn_8 : decode cX1_turn 8 = .ok (.ixor, 1) := by decide +kernel
theorem dX1_turn_9 : decode cX1_turn 9 = .ok (.putfield 25, 3) := by decide +kernel
theorem dX1_turn_12 : decode cX1_turn 12 = .ok (.aload_n 0, 1) := by decide +kernel
theorem dX1_turn_13 : decode cX1_turn 13 = .ok (.dup, 1) := by decide +kernel
theorem dX1_turn_14 : decode cX1_turn 14 = .ok (.getfield 28, 3) := by decide +kernel
theorem dX1_turn_17 : decode cX1_turn 17 = .ok (.iconst 1, 1) := by decide +kernel
theorem dX1_turn_18 : decode cX1_turn 18 = .ok (.iadd, 1) := by decide +kernel
theorem dX1_turn_19 : decode cX1_turn 19 = .ok (.putfield 28, 3) := by decide +kernel
theorem dX1_turn_22 : decode cX1_turn 22 = .ok (.return_, 1) := by decide +kernel
set_option maxHeartbeats 4000000 in
set_option maxRecDepth 100000 in
theorem c_X1_turn {l : Launch} {X : En} (k0 : Nat) (x1 : Int32) (M : Mem) (hk0 : isF k0) (M9 : Mem) (hf : fn_X1_turn k0 x1 M = some M9) : Cn l X yX1_turn cX1_turn 2 none 0 0 [.ref (X.ad k0), .int x1] M (Qv X M9) := by
  refine Met.ofW (cc := cX1_turn) (maxL := 2) (ret := none) (by decide) rfl ?_
  intro p e s m args below meth c s₁ B hml hv
  obtain ⟨rfl, hP, hk⟩ := hv
  have hx := B.exec
  have hb := B.bytes
  have hr := B.returns
  have hlocks := B.notSynchronized
  have hts : ∀ w ∈ lw_u, w.before ([.ref (X.ad k0), .int x1] : List Value).toArray s = true := fun w hw => atoms_spec (ws := Cond.code yX1_turn cX1_turn 2 none :: lw_u) B.pre w (List.mem_cons_of_mem _ hw)
  have hown : s.vm.findClass RX1 = some m.cls := findClass_of_methodNamed B.named
  have hZ : Fx p c m s ([.ref (X.ad k0), .int x1] : List Value).toArray X cX1_turn 2 RX1 := ⟨hx, hb, hml, hts, hown, hk⟩
  have hS : va_S X.A s.heap s.heap [] := va_S.rf
  have hl := lv_entry ([.ref (X.ad k0), .int x1]) (n := 2) (Nat.le_of_ble_eq_true rfl)
  rw [lg_entry_eq]
  generalize (lg_sl ([.ref (X.ad k0), .int x1]) ++ List.replicate (2 - (lg_sl ([.ref (X.ad k0), .int x1])).length) Slot.unset).toArray = ls at hl ⊢
  have hl : lv_has ls 2 [(0, .ref (X.ad k0)), (1, .int x1)] := hl
  show WW p l e 0 0 s m [.ref (X.ad k0), .int x1] below meth c X (Qv X M9) s.heap [] 0 ls []
  have hP : wd X M s.heap := hP
  unfold fn_X1_turn at hf
  have key : ∀ (H : Heap) (locs : List Loc), wd X M H → va_S X.A s.heap H locs → WW p l e 0 0 s m [.ref (X.ad k0), .int x1] below meth c X (Qv X M9) H locs 0 ls [] := by
    intro H locs hP hS
    refine lv_aload_n hx hb dX1_turn_0 rfl (lv_at hl 0 rfl) ?_
    refine lv_dup hx hb dX1_turn_1 rfl ?_
    refine gX1_3 hx hb hts hown hk hP hk0 wd_1_41 dX1_turn_2 ?_
    refine lv_iconst (v := (1 : Int32)) hx hb dX1_turn_5 (by decide) ?_
    refine lv_iload_n hx hb dX1_turn_6 rfl (lv_at hl 1 rfl) ?_
    refine rw_ishl hx hb dX1_turn_7 ?_
    refine lv_ixor hx hb dX1_turn_8 ?_
    refine pX1_3 hx hb hts hown hk hP hS hk0 wd_1_41 dX1_turn_9 (fun H locs M_1 e_M_1 hP hS => ?_)
    have hf := b_v hf e_M_1
    refine lv_aload_n hx hb dX1_turn_12 rfl (lv_at hl 0 rfl) ?_
    refine lv_dup hx hb dX1_turn_13 rfl ?_
    refine gX1_4 hx hb hts hown hk hP hk0 wd_1_43 dX1_turn_14 ?_
    refine lv_iconst (v := (1 : Int32)) hx hb dX1_turn_17 (by decide) ?_
    refine lv_iadd hx hb dX1_turn_18 ?_
    refine pX1_4 hx hb hts hown hk hP hS hk0 wd_1_43 dX1_turn_19 (fun H locs M_2 e_M_2 hP hS => ?_)
    have hf := b_v hf e_M_2
    have hf := Option.some.inj hf
    rw [hf] at hP
    exact ret_v hx hb hr hlocks hP hS dX1_turn_22
  exact key s.heap [] hP hS
theorem hd_X1_turn : Hd yX1_turn 1 := by decide +kernel
theorem k_X1_turn {p : Program} {l : Launch} {e : Env} {R : Room} {s : State} {m : MethodId} {args : Array Value} {below : List Frame} {meth : Method} {c : Code} {H : Heap} {locs : List Loc} {cells slots : Nat} {Q : State → Prop} {cc : ByteArray} {nL pc index : Nat} {ls : Array Slot} {rest : List Value} {X : En} {M : Mem} {H0 : Heap} {own : String} {k0 : Nat} {x1 : Int32} {M9 : Mem} (hZ : Fx p c m s args X cc nL own) (hP : wd X M H) (hS : va_S X.A H0 H locs) (hsz : ls.size = nL) (hlk : Cond.methodLink own index yX1_turn ∈ lw_u) (hR : 0 + 1 ≤ R.frames ∧ 8 + (2 + 11) + 0 ≤ R.locals) (hW : (rest.map fun v => v.category).sum ≤ 8) (hdg : decode cc pc = .ok (.invokevirtual index, 3)) (hcs : cells ≤ R.cells ∧ slots ≤ R.slots) (hk0 : isF k0) (hf : fn_X1_turn k0 x1 M = some M9)
    (kk : ∀ (H1 : Heap) (locs1 : List Loc), wd X M9 H1 → va_S X.A H0 H1 locs1 → W p l e R s m args below meth c H1 locs1 cells slots Q (F0 m (pc + 3) ls rest)) : W p l e R s m args below meth c H locs cells slots Q (F0 m pc ls (.int x1 :: .ref (X.ad k0) :: rest)) :=
  cal_v (runV (As := [.int x1]) (rest := rest) hZ.1 hZ.2.1 hZ.2.2.1 hZ.2.2.2.1 hZ.2.2.2.2.1 hZ.2.2.2.2.2 hP (c_X1_turn k0 x1 M hk0 M9 hf) wd_3_114 wd_3_112 wd_3_113 wd_1_2 hd_X1_turn (isF_lt0 hk0) (rd_F0 hk0 _) rfl rfl hlk hR hsz rfl hW hdg hcs) hS kk
/-! FrameRaiser.step -/
def fn_X7_step (g : Nat) (x1 : Int32) (x2 : Int32) (x3 : Int32) (M : Mem) : Option (Int32 × Mem) :=
  if (fn_X7_isPiece x1 M) = 0 then
    (some ((-1 : Int32), M))
  else
    (if (fn_X7_isDirection x2) = 0 then
      (some ((-1 : Int32), M))
    else
      ((fn_X7_knownRelations g M).bind fun M_3 =>
      if (fn_X7_has (M_3 1 3) x1) = x3 then
        ((fn_X5_isFree 9 x1 x2 (M_3 1 3) M_3).bind fun r_5 =>
        if r_5 = 0 then
          (some ((-2 : Int32), M_3))
        else
          ((fn_X2_remember 1 M_3).bind fun M_7 =>
          (fn_X1_turn 1 x1 M_7).bind fun M_8 =>
          (fn_X5_propsOf g 9 (M_8 1 3) M_8).bind fun r_9 =>
          some (r_9, M_8)))
      else
        (some ((-2 : Int32), M_3))))
theorem dX7_step_0 : decode cX7_step 0 = .ok (.aload_n 0, 1) := by decide +kernel
theorem dX7_step_1 : decode cX7_step 1 = .ok (.iload_n 1, 1) := by decide +kernel
theorem dX7_step_2 : decode cX7_step 2 = .ok (.invokevirtual 109, 3) := by decide +kernel
theorem dX7_step_5 : decode cX7_step 5 = .ok (.ifCond .eq 10, 3) := by decide +kernel
theorem dX7_step_8 : decode cX7_step 8 = .ok (.iload_n 2, 1) := by decide +kernel
theorem dX7_step_9 : decode cX7_step 9 = .ok (.invokestatic 157, 3) := by decide +kernel
theorem dX7_step_12 : decode cX7_step 12 = .ok (.ifCond .ne 5, 3) := by decide +kernel
theorem dX7_step_15 : decode cX7_step 15 = .ok (.iconst (-1), 1) := by decide +kernel
theorem dX7_step_16 : decode cX7_step 16 = .ok (.ireturn, 1) := by decide +kernel
theorem dX7_step_17 : decode cX7_step 17 = .ok (.aload_n 0, 1) := by decide +kernel
theorem dX7_step_18 : decode cX7_step 18 = .ok (.invokevirtual 160, 3) := by decide +kernel
theorem dX7_step_21 : decode cX7_step 21 = .ok (.astore 4, 2) := by decide +kernel
theorem dX7_step_23 : decode cX7_step 23 = .ok (.aload_n 0, 1) := by decide +kernel
theorem dX7_step_24 : decode cX7_step 24 = .ok (.getfield 10, 3) := by decide +kernel
theorem dX7_step_27 : decode cX7_step 27 = .ok (.getfield 141, 3) := by decide +kernel
theorem dX7_step_30 : decode cX7_step 30 = .ok (.iload_n 1, 1) := by decide +kernel
theorem dX7_step_31 : decode cX7_step 31 = .ok (.invokestatic 144, 3) := by decide +kernel
theorem dX7_step_34 : decode cX7_step 34 = .ok (.iload_n 3, 1) := by decide +kernel
theorem dX7_step_35 : decode cX7_step 35 = .ok (.if_icmp .ne 20, 3) := by decide +kernel
theorem dX7_step_38 : decode cX7_step 38 = .ok (.aload 4, 2) := by decide +kernel
theorem dX7_step_40 : decode cX7_step 40 = .ok (.iload_n 1, 1) := by decide +kernel
theorem dX7_step_41 : decode cX7_step 41 = .ok (.iload_n 2, 1) := by decide +kernel
theorem dX7_step_42 : decode cX7_step 42 = .ok (.aload_n 0, 1) := by decide +kernel
theorem dX7_step_43 : decode cX7_step 43 = .ok (.getfield 10, 3) := by decide +kernel
theorem dX7_step_46 : decode cX7_step 46 = .ok (.getfield 141, 3) := by decide +kernel
theorem dX7_step_49 : decode cX7_step 49 = .ok (.invokevirtual 170, 3) := by decide +kernel
theorem dX7_step_52 : decode cX7_step 52 = .ok (.ifCond .ne 6, 3) := by decide +kernel
theorem dX7_step_55 : decode cX7_step 55 = .ok (.bipush (-2), 2) := by decide +kernel
theorem dX7_step_57 : decode cX7_step 57 = .ok (.ireturn, 1) := by decide +kernel
theorem dX7_step_58 : decode cX7_step 58 = .ok (.aload_n 0, 1) := by decide +kernel
theorem dX7_step_59 : decode cX7_step 59 = .ok (.getfield 42, 3) := by decide +kernel
theorem dX7_step_62 : decode cX7_step 62 = .ok (.aload_n 0, 1) := by decide +kernel
theorem dX7_step_63 : decode cX7_step 63 = .ok (.getfield 10, 3) := by decide +kernel
theorem dX7_step_66 : decode cX7_step 66 = .ok (.invokevirtual 81, 3) := by decide +kernel
theorem dX7_step_69 : decode cX7_step 69 = .ok (.aload_n 0, 1) := by decide +kernel
theorem dX7_step_70 : decode cX7_step 70 = .ok (.getfield 10, 3) := by decide +kernel
theorem dX7_step_73 : decode cX7_step 73 = .ok (.iload_n 1, 1) := by decide +kernel
theorem dX7_step_74 : decode cX7_step 74 = .ok (.invokevirtual 226, 3) := by decide +kernel
theorem dX7_step_77 : decode cX7_step 77 = .ok (.aload 4, 2) := by decide +kernel
theorem dX7_step_79 : decode cX7_step 79 = .ok (.aload_n 0, 1) := by decide +kernel
theorem dX7_step_80 : decode cX7_step 80 = .ok (.getfield 10, 3) := by decide +kernel
theorem dX7_step_83 : decode cX7_step 83 = .ok (.getfield 141, 3) := by decide +kernel
theorem dX7_step_86 : decode cX7_step 86 = .ok (.invokevirtual 180, 3) := by decide +kernel
theorem dX7_step_89 : decode cX7_step 89 = .ok (.ireturn, 1) := by decide +kernel
set_option maxHeartbeats 4000000 in
set_option maxRecDepth 100000 in
theorem c_X7_step {l : Launch} {X : En} (g : Nat) (x1 : Int32) (x2 : Int32) (x3 : Int32) (M : Mem) (r : Int32) (M9 : Mem) (hf : fn_X7_step g x1 x2 x3 M = some (r, M9)) : Cn l X yX7_step cX7_step 5 (some .int) 4 96 [.ref (X.ad 0), .int x1, .int x2, .int x3] M (Qi X r M9) := by
  refine Met.ofW (cc := cX7_step) (maxL := 5) (ret := (some .int)) (by decide) rfl ?_
  intro p e s m args below meth c s₁ B hml hv
  obtain ⟨rfl, hP, hk⟩ := hv
  have hx := B.exec
  have hb := B.bytes
  have hr := B.returns
  have hlocks := B.notSynchronized
  have hts : ∀ w ∈ lw_u, w.before ([.ref (X.ad 0), .int x1, .int x2, .int x3] : List Value).toArray s = true := fun w hw => atoms_spec (ws := Cond.code yX7_step cX7_step 5 (some .int) :: lw_u) B.pre w (List.mem_cons_of_mem _ hw)
  have hown : s.vm.findClass RX7 = some m.cls := findClass_of_methodNamed B.named
  have hZ : Fx p c m s ([.ref (X.ad 0), .int x1, .int x2, .int x3] : List Value).toArray X cX7_step 5 RX7 := ⟨hx, hb, hml, hts, hown, hk⟩
  have hS : va_S X.A s.heap s.heap [] := va_S.rf
  have hl := lv_entry ([.ref (X.ad 0), .int x1, .int x2, .int x3]) (n := 5) (Nat.le_of_ble_eq_true rfl)
  rw [lg_entry_eq]
  generalize (lg_sl ([.ref (X.ad 0), .int x1, .int x2, .int x3]) ++ List.replicate (5 - (lg_sl ([.ref (X.ad 0), .int x1, .int x2, .int x3])).length) Slot.unset).toArray = ls at hl ⊢
  have hl : lv_has ls 5 [(0, .ref (X.ad 0)), (1, .int x1), (2, .int x2), (3, .int x3)] := hl
  show WW p l e 4 96 s m [.ref (X.ad 0), .int x1, .int x2, .int x3] below meth c X (Qi X r M9) s.heap [] 0 ls []
  have hP : wd X M s.heap := hP
  unfold fn_X7_step at hf
  have key : ∀ (H : Heap) (locs : List Loc), wd X M H → va_S X.A s.heap H locs → WW p l e 4 96 s m [.ref (X.ad 0), .int x1, .int x2, .int x3] below meth c X (Qi X r M9) H locs 0 ls [] := by
    intro H locs hP hS
    refine lv_aload_n hx hb dX7_step_0 rfl (lv_at hl 0 rfl) ?_
    refine lv_iload_n hx hb dX7_step_1 rfl (lv_at hl 1 rfl) ?_
    refine k_X7_isPiece hZ hP hS hl.1 wd_2_106 ⟨Nat.le_of_ble_eq_true rfl, Nat.le_of_ble_eq_true rfl⟩ (Nat.le_of_ble_eq_true rfl) dX7_step_2 ⟨Nat.zero_le _, Nat.zero_le _⟩ (fun H locs hP hS => ?_)
    refine lv_if_eq (tgt := 15) hx hb dX7_step_5 (by decide) (fun c_1 => ?_) (fun c_1 => ?_)
    · have hf := i_t c_1 hf
      refine lv_iconst (v := (-1 : Int32)) hx hb dX7_step_15 (by decide) ?_
      have hf := Option.some.inj hf
      obtain ⟨e1, e2⟩ := Prod.mk.inj hf
      rw [e2] at hP
      exact ret_i hx hb hr hlocks hP hS e1 dX7_step_16
    · have hf := i_f c_1 hf
      refine lv_iload_n hx hb dX7_step_8 rfl (lv_at hl 2 rfl) ?_
      refine k_X7_isDirection hZ hP hS hl.1 wd_2_145 ⟨Nat.le_of_ble_eq_true rfl, Nat.le_of_ble_eq_true rfl⟩ (Nat.le_of_ble_eq_true rfl) dX7_step_9 ⟨Nat.zero_le _, Nat.zero_le _⟩ (fun H locs hP hS => ?_)
      refine lv_if_ne (tgt := 17) hx hb dX7_step_12 (by decide) (fun c_2 => ?_) (fun c_2 => ?_)
      · have hf := i_f c_2 hf
        refine lv_aload_n hx hb dX7_step_17 rfl (lv_at hl 0 rfl) ?_
        obtain ⟨M_3, h_M_3, hf⟩ := b_d hf
        refine k_X7_knownRelations hZ hP hS hl.1 wd_2_185 ⟨Nat.le_of_ble_eq_true rfl, Nat.le_of_ble_eq_true rfl⟩ (Nat.le_of_ble_eq_true rfl) dX7_step_18 ⟨Nat.zero_le _, Nat.zero_le _⟩ h_M_3 (fun H locs hP hS => ?_)
        refine lv_astore (lv' := [(4, .ref (X.ad 9)), (0, .ref (X.ad 0)), (1, .int x1), (2, .int x2), (3, .int x3)]) hx hb dX7_step_21 hl (by decide) rfl (fun ls hl => ?_)
        refine lv_aload_n hx hb dX7_step_23 rfl (lv_at hl 1 rfl) ?_
        refine gX7_0 hx hb hts hown hk hP wd_1_213 dX7_step_24 ?_
        refine gX1_3 hx hb hts hown hk hP isF_1 wd_1_42 dX7_step_27 ?_
        refine lv_iload_n hx hb dX7_step_30 rfl (lv_at hl 2 rfl) ?_
        refine k_X7_has hZ hP hS hl.1 wd_2_178 ⟨Nat.le_of_ble_eq_true rfl, Nat.le_of_ble_eq_true rfl⟩ (Nat.le_of_ble_eq_true rfl) dX7_step_31 ⟨Nat.zero_le _, Nat.zero_le _⟩ (fun H locs hP hS => ?_)
        refine lv_iload_n hx hb dX7_step_34 rfl (lv_at hl 4 rfl) ?_
        refine lv_icmp_ne (tgt := 55) hx hb dX7_step_35 (by decide) (fun c_4 => ?_) (fun c_4 => ?_)
        · have hf := i_f c_4 hf
          refine lv_bipush (v := (-2 : Int32)) hx hb dX7_step_55 (by decide) ?_
          have hf := Option.some.inj hf
          obtain ⟨e1, e2⟩ := Prod.mk.inj hf
          rw [e2] at hP
          exact ret_i hx hb hr hlocks hP hS e1 dX7_step_57
        · have hf := i_t c_4 hf
          refine lv_aload hx hb dX7_step_38 (lv_at hl 0 rfl) ?_
          refine lv_iload_n hx hb dX7_step_40 rfl (lv_at hl 2 rfl) ?_
          refine lv_iload_n hx hb dX7_step_41 rfl (lv_at hl 3 rfl) ?_
          refine lv_aload_n hx hb dX7_step_42 rfl (lv_at hl 1 rfl) ?_
          refine gX7_0 hx hb hts hown hk hP wd_1_213 dX7_step_43 ?_
          refine gX1_3 hx hb hts hown hk hP isF_1 wd_1_42 dX7_step_46 ?_
          obtain ⟨r_5, h_r_5, hf⟩ := b_d hf
          refine k_X5_isFree hZ hP hS hl.1 wd_2_229 ⟨Nat.le_of_ble_eq_true rfl, Nat.le_of_ble_eq_true rfl⟩ (Nat.le_of_ble_eq_true rfl) dX7_step_49 ⟨Nat.zero_le _, Nat.zero_le _⟩ isR_9 h_r_5 (fun H locs hP hS => ?_)
          refine lv_if_ne (tgt := 58) hx hb dX7_step_52 (by decide) (fun c_6 => ?_) (fun c_6 => ?_)
          · have hf := i_f c_6 hf
            refine lv_aload_n hx hb dX7_step_58 rfl (lv_at hl 1 rfl) ?_
            refine gX7_4 hx hb hts hown hk hP wd_1_217 dX7_step_59 ?_
            refine lv_aload_n hx hb dX7_step_62 rfl (lv_at hl 1 rfl) ?_
            refine gX7_0 hx hb hts hown hk hP wd_1_213 dX7_step_63 ?_
            obtain ⟨M_7, h_M_7, hf⟩ := b_d hf
            refine k_X2_remember hZ hP hS hl.1 wd_2_66 ⟨Nat.le_of_ble_eq_true rfl, Nat.le_of_ble_eq_true rfl⟩ (Nat.le_of_ble_eq_true rfl) dX7_step_66 ⟨Nat.zero_le _, Nat.zero_le _⟩ isF_1 h_M_7 (fun H locs hP hS => ?_)
            refine lv_aload_n hx hb dX7_step_69 rfl (lv_at hl 1 rfl) ?_
            refine gX7_0 hx hb hts hown hk hP wd_1_213 dX7_step_70 ?_
            refine lv_iload_n hx hb dX7_step_73 rfl (lv_at hl 2 rfl) ?_
            obtain ⟨M_8, h_M_8, hf⟩ := b_d hf
            refine k_X1_turn hZ hP hS hl.1 wd_3_111 ⟨Nat.le_of_ble_eq_true rfl, Nat.le_of_ble_eq_true rfl⟩ (Nat.le_of_ble_eq_true rfl) dX7_step_74 ⟨Nat.zero_le _, Nat.zero_le _⟩ isF_1 h_M_8 (fun H locs hP hS => ?_)
            refine lv_aload hx hb dX7_step_77 (lv_at hl 0 rfl) ?_
            refine lv_aload_n hx hb dX7_step_79 rfl (lv_at hl 1 rfl) ?_
            refine gX7_0 hx hb hts hown hk hP wd_1_213 dX7_step_80 ?_
            refine gX1_3 hx hb hts hown hk hP isF_1 wd_1_42 dX7_step_83 ?_
            obtain ⟨r_9, h_r_9, hf⟩ := b_d hf
            refine k_X5_propsOf hZ hP hS hl.1 wd_3_10 ⟨Nat.le_of_ble_eq_true rfl, Nat.le_of_ble_eq_true rfl⟩ (Nat.le_of_ble_eq_true rfl) dX7_step_86 ⟨Nat.zero_le _, Nat.zero_le _⟩ isR_9 h_r_9 (fun H locs hP hS => ?_)
            have hf := Option.some.inj hf
            obtain ⟨e1, e2⟩ := Prod.mk.inj hf
            rw [e2] at hP
            exact ret_i hx hb hr hlocks hP hS e1 dX7_step_89
          · have hf := i_t c_6 hf
            refine lv_bipush (v := (-2 : Int32)) hx hb dX7_step_55 (by decide) ?_
            have hf := Option.some.inj hf
            obtain ⟨e1, e2⟩ := Prod.mk.inj hf
            rw [e2] at hP
            exact ret_i hx hb hr hlocks hP hS e1 dX7_step_57
      · have hf := i_t c_2 hf
        refine lv_iconst (v := (-1 : Int32)) hx hb dX7_step_15 (by decide) ?_
        have hf := Option.some.inj hf
        obtain ⟨e1, e2⟩ := Prod.mk.inj hf
        rw [e2] at hP
        exact ret_i hx hb hr hlocks hP hS e1 dX7_step_16
  exact key s.heap [] hP hS
theorem hd_X7_step : Hd yX7_step 3 := by decide +kernel
theorem k_X7_step {p : Program} {l : Launch} {e : Env} {R : Room} {s : State} {m : MethodId} {args : Array Value} {below : List Frame} {meth : Method} {c : Code} {H : Heap} {locs : List Loc} {cells slots : Nat} {Q : State → Prop} {cc : ByteArray} {nL pc index : Nat} {ls : Array Slot} {rest : List Value} {X : En} {M : Mem} {H0 : Heap} {own : String} {g : Nat} {x1 : Int32} {x2 : Int32} {x3 : Int32} {r : Int32} {M9 : Mem} (hZ : Fx p c m s args X cc nL own) (hP : wd X M H) (hS : va_S X.A H0 H locs) (hsz : ls.size = nL) (hlk : Cond.methodLink own index yX7_step ∈ lw_u) (hR : 4 + 1 ≤ R.frames ∧ 8 + (5 + 11) + 96 ≤ R.locals) (hW : (rest.map fun v => v.category).sum ≤ 8) (hdg : decode cc pc = .ok (.invokevirtual index, 3)) (hcs : cells ≤ R.cells ∧ slots ≤ R.slots) (hf : fn_X7_step g x1 x2 x3 M = some (r, M9))
    (kk : ∀ (H1 : Heap) (locs1 : List Loc), wd X M9 H1 → va_S X.A H0 H1 locs1 → W p l e R s m args below meth c H1 locs1 cells slots Q (F0 m (pc + 3) ls (.int r :: rest))) : W p l e R s m args below meth c H locs cells slots Q (F0 m pc ls (.int x3 :: .int x2 :: .int x1 :: .ref (X.ad 0) :: rest)) :=
  cal_i (runV (As := [.int x1, .int x2, .int x3]) (rest := rest) hZ.1 hZ.2.1 hZ.2.2.1 hZ.2.2.2.1 hZ.2.2.2.2.1 hZ.2.2.2.2.2 hP (c_X7_step g x1 x2 x3 M r M9 hf) wd_3_110 wd_3_109 wd_p_23 wd_1_1 hd_X7_step (by decide) rfl rfl rfl hlk hR hsz rfl hW hdg hcs) hS kk
/-! FrameRaiser.put -/
def fn_X7_put (g : Nat) (x1 : Int32) (x2 : Int32) (M : Mem) : Option (Int32 × Mem) :=
  (fn_X7_step g x1 x2 (0 : Int32) M).bind (u2 fun r_1 M_2 =>
  some (r_1, M_2))
theorem dX7_put_0 : decode cX7_put 0 = .ok (.aload_n 0, 1) := by decide +kernel
theorem dX7_put_1 : decode cX7_put 1 = .ok (.iload_n 1, 1) := by decide +kernel
theorem dX7_put_2 : decode cX7_put 2 = .ok (.iload_n 2, 1) := by decide +kernel
theorem dX7_put_3 : decode cX7_put 3 = .ok (.iconst 0, 1) := by decide +kernel
theorem dX7_put_4 : decode cX7_put 4 = .ok (.invokevirtual 218, 3) := by decide +kernel
theorem dX7_put_7 : decode cX7_put 7 = .ok (.ireturn, 1) := by decide +kernel
set_option maxHeartbeats 4000000 in
set_option maxRecDepth 100000 in
theorem c_X7_put {l : Launch} {X : En} (g : Nat) (x1 : Int32) (x2 : Int32) (M : Mem) (r : Int32) (M9 : Mem) (hf : fn_X7_put g x1 x2 M = some (r, M9)) : Cn l X yX7_put cX7_put 3 (some .int) 5 120 [.ref (X.ad 0), .int x1, .int x2] M (Qi X r M9) := by
  refine Met.ofW (cc := cX7_put) (maxL := 3) (ret := (some .int)) (by decide) rfl ?_
  intro p e s m args below meth c s₁ B hml hv
  obtain ⟨rfl, hP, hk⟩ := hv
  have hx := B.exec
  have hb := B.bytes
  have hr := B.returns
  have hlocks := B.notSynchronized
  have hts : ∀ w ∈ lw_u, w.before ([.ref (X.ad 0), .int x1, .int x2] : List Value).toArray s = true := fun w hw => atoms_spec (ws := Cond.code yX7_put cX7_put 3 (some .int) :: lw_u) B.pre w (List.mem_cons_of_mem _ hw)
  have hown : s.vm.findClass RX7 = some m.cls := findClass_of_methodNamed B.named
  have hZ : Fx p c m s ([.ref (X.ad 0), .int x1, .int x2] : List Value).toArray X cX7_put 3 RX7 := ⟨hx, hb, hml, hts, hown, hk⟩
  have hS : va_S X.A s.heap s.heap [] := va_S.rf
  have hl := lv_entry ([.ref (X.ad 0), .int x1, .int x2]) (n := 3) (Nat.le_of_ble_eq_true rfl)
  rw [lg_entry_eq]
  generalize (lg_sl ([.ref (X.ad 0), .int x1, .int x2]) ++ List.replicate (3 - (lg_sl ([.ref (X.ad 0), .int x1, .int x2])).length) Slot.unset).toArray = ls at hl ⊢
  have hl : lv_has ls 3 [(0, .ref (X.ad 0)), (1, .int x1), (2, .int x2)] := hl
  show WW p l e 5 120 s m [.ref (X.ad 0), .int x1, .int x2] below meth c X (Qi X r M9) s.heap [] 0 ls []
  have hP : wd X M s.heap := hP
  unfold fn_X7_put at hf
  have key : ∀ (H : Heap) (locs : List Loc), wd X M H → va_S X.A s.heap H locs → WW p l e 5 120 s m [.ref (X.ad 0), .int x1, .int x2] below meth c X (Qi X r M9) H locs 0 ls [] := by
    intro H locs hP hS
    refine lv_aload_n hx hb dX7_put_0 rfl (lv_at hl 0 rfl) ?_
    refine lv_iload_n hx hb dX7_put_1 rfl (lv_at hl 1 rfl) ?_
    refine lv_iload_n hx hb dX7_put_2 rfl (lv_at hl 2 rfl) ?_
    refine lv_iconst (v := (0 : Int32)) hx hb dX7_put_3 (by decide) ?_
    obtain ⟨⟨r_1, M_2⟩, h_r_1, hf⟩ := b_d hf
    have hf := u2_e hf
    refine k_X7_step hZ hP hS hl.1 wd_3_107 ⟨Nat.le_of_ble_eq_true rfl, Nat.le_of_ble_eq_true rfl⟩ (Nat.le_of_ble_eq_true rfl) dX7_put_4 ⟨Nat.zero_le _, Nat.zero_le _⟩ h_r_1 (fun H locs hP hS => ?_)
    have hf := Option.some.inj hf
    obtain ⟨e1, e2⟩ := Prod.mk.inj hf
    rw [e2] at hP
    exact ret_i hx hb hr hlocks hP hS e1 dX7_put_7
  exact key s.heap [] hP hS
theorem hd_X7_put : Hd yX7_put 2 := by decide +kernel
theorem k_X7_put {p : Program} {l : Launch} {e : Env} {R : Room} {s : State} {m : MethodId} {args : Array Value} {below : List Frame} {meth : Method} {c : Code} {H : Heap} {locs : List Loc} {cells slots : Nat} {Q : State → Prop} {cc : ByteArray} {nL pc index : Nat} {ls : Array Slot} {rest : List Value} {X : En} {M : Mem} {H0 : Heap} {own : String} {g : Nat} {x1 : Int32} {x2 : Int32} {r : Int32} {M9 : Mem} (hZ : Fx p c m s args X cc nL own) (hP : wd X M H) (hS : va_S X.A H0 H locs) (hsz : ls.size = nL) (hlk : Cond.methodLink own index yX7_put ∈ lw_u) (hR : 5 + 1 ≤ R.frames ∧ 8 + (3 + 11) + 120 ≤ R.locals) (hW : (rest.map fun v => v.category).sum ≤ 8) (hdg : decode cc pc = .ok (.invokevirtual index, 3)) (hcs : cells ≤ R.cells ∧ slots ≤ R.slots) (hf : fn_X7_put g x1 x2 M = some (r, M9))
    (kk : ∀ (H1 : Heap) (locs1 : List Loc), wd X M9 H1 → va_S X.A H0 H1 locs1 → W p l e R s m args below meth c H1 locs1 cells slots Q (F0 m (pc + 3) ls (.int r :: rest))) : W p l e R s m args below meth c H locs cells slots Q (F0 m pc ls (.int x2 :: .int x1 :: .ref (X.ad 0) :: rest)) :=
  cal_i (runV (As := [.int x1, .int x2]) (rest := rest) hZ.1 hZ.2.1 hZ.2.2.1 hZ.2.2.2.1 hZ.2.2.2.2.1 hZ.2.2.2.2.2 hP (c_X7_put g x1 x2 M r M9 hf) wd_3_106 wd_3_104 wd_3_105 wd_1_1 hd_X7_put (by decide) rfl rfl rfl hlk hR hsz rfl hW hdg hcs) hS kk
/-! FrameRaiser.takeOut -/
def fn_X7_takeOut (g : Nat) (x1 : Int32) (x2 : Int32) (M : Mem) : Option (Int32 × Mem) :=
  (fn_X7_step g x1 x2 (1 : Int32) M).bind (u2 fun r_1 M_2 =>
  some (r_1, M_2))
theorem dX7_takeOut_0 : decode cX7_takeOut 0 = .ok (.aload_n 0, 1) := by decide +kernel
theorem dX7_takeOut_1 : decode cX7_takeOut 1 = .ok (.iload_n 1, 1) := by decide +kernel
theorem dX7_takeOut_2 : decode cX7_takeOut 2 = .ok (.iload_n 2, 1) := by decide +kernel
theorem dX7_takeOut_3 : decode cX7_takeOut 3 = .ok (.iconst 1, 1) := by decide +kernel
theorem dX7_takeOut_4 : decode cX7_takeOut 4 = .ok (.invokevirtual 218, 3) := by decide +kernel
theorem dX7_takeOut_7 : decode cX7_takeOut 7 = .ok (.ireturn, 1) := by decide +kernel
set_option maxHeartbeats 4000000 in
set_option maxRecDepth 100000 in
theorem c_X7_takeOut {l : Launch} {X : En} (g : Nat) (x1 : Int32) (x2 : Int32) (M : Mem) (r : Int32) (M9 : Mem) (hf : fn_X7_takeOut g x1 x2 M = some (r, M9)) : Cn l X yX7_takeOut cX7_takeOut 3 (some .int) 5 120 [.ref (X.ad 0), .int x1, .int x2] M (Qi X r M9) := by
  refine Met.ofW (cc := cX7_takeOut) (maxL := 3) (ret := (some .int)) (by decide) rfl ?_
  intro p e s m args below meth c s₁ B hml hv
  obtain ⟨rfl, hP, hk⟩ := hv
  have hx := B.exec
  have hb := B.bytes
  have hr := B.returns
  have hlocks := B.notSynchronized
  have hts : ∀ w ∈ lw_u, w.before ([.ref (X.ad 0), .int x1, .int x2] : List Value).toArray s = true := fun w hw => atoms_spec (ws := Cond.code yX7_takeOut cX7_takeOut 3 (some .int) :: lw_u) B.pre w (List.mem_cons_of_mem _ hw)
  have hown : s.vm.findClass RX7 = some m.cls := findClass_of_methodNamed B.named
  have hZ : Fx p c m s ([.ref (X.ad 0), .int x1, .int x2] : List Value).toArray X cX7_takeOut 3 RX7 := ⟨hx, hb, hml, hts, hown, hk⟩
  have hS : va_S X.A s.heap s.heap [] := va_S.rf
  have hl := lv_entry ([.ref (X.ad 0), .int x1, .int x2]) (n := 3) (Nat.le_of_ble_eq_true rfl)
  rw [lg_entry_eq]
  generalize (lg_sl ([.ref (X.ad 0), .int x1, .int x2]) ++ List.replicate (3 - (lg_sl ([.ref (X.ad 0), .int x1, .int x2])).length) Slot.unset).toArray = ls at hl ⊢
  have hl : lv_has ls 3 [(0, .ref (X.ad 0)), (1, .int x1), (2, .int x2)] := hl
  show WW p l e 5 120 s m [.ref (X.ad 0), .int x1, .int x2] below meth c X (Qi X r M9) s.heap [] 0 ls []
  have hP : wd X M s.heap := hP
  unfold fn_X7_takeOut at hf
  have key : ∀ (H : Heap) (locs : List Loc), wd X M H → va_S X.A s.heap H locs → WW p l e 5 120 s m [.ref (X.ad 0), .int x1, .int x2] below meth c X (Qi X r M9) H locs 0 ls [] := by
    intro H locs hP hS
    refine lv_aload_n hx hb dX7_takeOut_0 rfl (lv_at hl 0 rfl) ?_
    refine lv_iload_n hx hb dX7_takeOut_1 rfl (lv_at hl 1 rfl) ?_
    refine lv_iload_n hx hb dX7_takeOut_2 rfl (lv_at hl 2 rfl) ?_
    refine lv_iconst (v := (1 : Int32)) hx hb dX7_takeOut_3 (by decide) ?_
    obtain ⟨⟨r_1, M_2⟩, h_r_1, hf⟩ := b_d hf
    have hf := u2_e hf
    refine k_X7_step hZ hP hS hl.1 wd_3_107 ⟨Nat.le_of_ble_eq_true rfl, Nat.le_of_ble_eq_true rfl⟩ (Nat.le_of_ble_eq_true rfl) dX7_takeOut_4 ⟨Nat.zero_le _, Nat.zero_le _⟩ h_r_1 (fun H locs hP hS => ?_)
    have hf := Option.some.inj hf
    obtain ⟨e1, e2⟩ := Prod.mk.inj hf
    rw [e2] at hP
    exact ret_i hx hb hr hlocks hP hS e1 dX7_takeOut_7
  exact key s.heap [] hP hS
theorem hd_X7_takeOut : Hd yX7_takeOut 2 := by decide +kernel
theorem k_X7_takeOut {p : Program} {l : Launch} {e : Env} {R : Room} {s : State} {m : MethodId} {args : Array Value} {below : List Frame} {meth : Method} {c : Code} {H : Heap} {locs : List Loc} {cells slots : Nat} {Q : State → Prop} {cc : ByteArray} {nL pc index : Nat} {ls : Array Slot} {rest : List Value} {X : En} {M : Mem} {H0 : Heap} {own : String} {g : Nat} {x1 : Int32} {x2 : Int32} {r : Int32} {M9 : Mem} (hZ : Fx p c m s args X cc nL own) (hP : wd X M H) (hS : va_S X.A H0 H locs) (hsz : ls.size = nL) (hlk : Cond.methodLink own index yX7_takeOut ∈ lw_u) (hR : 5 + 1 ≤ R.frames ∧ 8 + (3 + 11) + 120 ≤ R.locals) (hW : (rest.map fun v => v.category).sum ≤ 8) (hdg : decode cc pc = .ok (.invokevirtual index, 3)) (hcs : cells ≤ R.cells ∧ slots ≤ R.slots) (hf : fn_X7_takeOut g x1 x2 M = some (r, M9))
    (kk : ∀ (H1 : Heap) (locs1 : List Loc), wd X M9 H1 → va_S X.A H0 H1 locs1 → W p l e R s m args below meth c H1 locs1 cells slots Q (F0 m (pc + 3) ls (.int r :: rest))) : W p l e R s m args below meth c H locs cells slots Q (F0 m pc ls (.int x2 :: .int x1 :: .ref (X.ad 0) :: rest)) :=
  cal_i (runV (As := [.int x1, .int x2]) (rest := rest) hZ.1 hZ.2.1 hZ.2.2.1 hZ.2.2.2.1 hZ.2.2.2.2.1 hZ.2.2.2.2.2 hP (c_X7_takeOut g x1 x2 M r M9 hf) wd_3_118 wd_3_116 wd_3_117 wd_1_1 hd_X7_takeOut (by decide) rfl rfl rfl hlk hR hsz rfl hW hdg hcs) hS kk
/-! FrameRaiser.nextToPut -/
def bd_X7_nextToPut_7 (g : Nat) (M_1 : Mem) : (Int32) → Option ((Int32) ⊕ ((Unit) ⊕ (Int32 × Mem))) :=
  u1 fun v2_2 =>
  if (M_1 1 2) ≤ v2_2 then
    (some (.inr (.inl ())))
  else
    (if (fn_X7_has (M_1 1 3) v2_2) = 0 then
      ((fn_X5_firstWay g 9 v2_2 (M_1 1 3) M_1).bind fun r_5 =>
      if r_5 = (-9 : Int32) then
        (some (.inl (v2_2 + (1 : Int32))))
      else
        (some (.inr (.inr (v2_2, M_1)))))
    else
      (some (.inl (v2_2 + (1 : Int32)))))
def fn_X7_nextToPut (g : Nat) (M : Mem) : Option (Int32 × Mem) :=
  (fn_X7_knownRelations g M).bind fun M_1 =>
  (lpN g (bd_X7_nextToPut_7 g M_1) (0 : Int32)).bind (el (fun (_ : Unit) =>
    some ((-9 : Int32), M_1)) (fun rr => some rr))
theorem dX7_nextToPut_0 : decode cX7_nextToPut 0 = .ok (.aload_n 0, 1) := by decide +kernel
theorem dX7_nextToPut_1 : decode cX7_nextToPut 1 = .ok (.invokevirtual 160, 3) := by decide +kernel
theorem dX7_nextToPut_4 : decode cX7_nextToPut 4 = .ok (.astore_n 1, 1) := by decide +kernel
theorem dX7_nextToPut_5 : decode cX7_nextToPut 5 = .ok (.iconst 0, 1) := by decide +kernel
theorem dX7_nextToPut_6 : decode cX7_nextToPut 6 = .ok (.istore_n 2, 1) := by decide +kernel
theorem dX7_nextToPut_7 : decode cX7_nextToPut 7 = .ok (.iload_n 2, 1) := by decide +kernel
theorem dX7_nextToPut_8 : decode cX7_nextToPut 8 = .ok (.aload_n 0, 1) := by decide +kernel
theorem dX7_nextToPut_9 : decode cX7_nextToPut 9 = .ok (.getfield 10, 3) := by decide +kernel
theorem dX7_nextToPut_12 : decode cX7_nextToPut 12 = .ok (.getfield 91, 3) := by decide +kernel
theorem dX7_nextToPut_15 : decode cX7_nextToPut 15 = .ok (.if_icmp .ge 42, 3) := by decide +kernel
theorem dX7_nextToPut_18 : decode cX7_nextToPut 18 = .ok (.aload_n 0, 1) := by decide +kernel
theorem dX7_nextToPut_19 : decode cX7_nextToPut 19 = .ok (.getfield 10, 3) := by decide +kernel
theorem dX7_nextToPut_22 : decode cX7_nextToPut 22 = .ok (.getfield 141, 3) := by decide +kernel
theorem dX7_nextToPut_25 : decode cX7_nextToPut 25 = .ok (.iload_n 2, 1) := by decide +kernel
theorem dX7_nextToPut_26 : decode cX7_nextToPut 26 = .ok (.invokestatic 144, 3) := by decide +kernel
theorem dX7_nextToPut_29 : decode cX7_nextToPut 29 = .ok (.ifCond .ne 22, 3) := by decide +kernel
theorem dX7_nextToPut_32 : decode cX7_nextToPut 32 = .ok (.aload_n 1, 1) := by decide +kernel
theorem dX7_nextToPut_33 : decode cX7_nextToPut 33 = .ok (.iload_n 2, 1) := by decide +kernel
theorem dX7_nextToPut_34 : decode cX7_nextToPut 34 = .ok (.aload_n 0, 1) := by decide +kernel
theorem dX7_nextToPut_35 : decode cX7_nextToPut 35 = .ok (.getfield 10, 3) := by decide +kernel
theorem dX7_nextToPut_38 : decode cX7_nextToPut 38 = .ok (.getfield 141, 3) := by decide +kernel
theorem dX7_nextToPut_41 : decode cX7_nextToPut 41 = .ok (.invokevirtual 291, 3) := by decide +kernel
theorem dX7_nextToPut_44 : decode cX7_nextToPut 44 = .ok (.bipush (-9), 2) := by decide +kernel
theorem dX7_nextToPut_46 : decode cX7_nextToPut 46 = .ok (.if_icmp .eq 5, 3) := by decide +kernel
theorem dX7_nextToPut_49 : decode cX7_nextToPut 49 = .ok (.iload_n 2, 1) := by decide +kernel
theorem dX7_nextToPut_50 : decode cX7_nextToPut 50 = .ok (.ireturn, 1) := by decide +kernel
theorem dX7_nextToPut_51 : decode cX7_nextToPut 51 = .ok (.iinc 2 1, 3) := by decide +kernel
theorem dX7_nextToPut_54 : decode cX7_nextToPut 54 = .ok (.goto (-47), 3) := by decide +kernel
theorem dX7_nextToPut_57 : decode cX7_nextToPut 57 = .ok (.bipush (-9), 2) := by decide +kernel
theorem dX7_nextToPut_59 : decode cX7_nextToPut 59 = .ok (.ireturn, 1) := by decide +kernel
set_option maxHeartbeats 4000000 in
set_option maxRecDepth 100000 in
theorem c_X7_nextToPut {l : Launch} {X : En} (g : Nat) (M : Mem) (r : Int32) (M9 : Mem) (hf : fn_X7_nextToPut g M = some (r, M9)) : Cn l X yX7_nextToPut cX7_nextToPut 3 (some .int) 4 96 [.ref (X.ad 0)] M (Qi X r M9) := by
  refine Met.ofW (cc := cX7_nextToPut) (maxL := 3) (ret := (some .int)) (by decide) rfl ?_
  intro p e s m args below meth c s₁ B hml hv
  obtain ⟨rfl, hP, hk⟩ := hv
  have hx := B.exec
  have hb := B.bytes
  have hr := B.returns
  have hlocks := B.notSynchronized
  have hts : ∀ w ∈ lw_u, w.before ([.ref (X.ad 0)] : List Value).toArray s = true := fun w hw => atoms_spec (ws := Cond.code yX7_nextToPut cX7_nextToPut 3 (some .int) :: lw_u) B.pre w (List.mem_cons_of_mem _ hw)
  have hown : s.vm.findClass RX7 = some m.cls := findClass_of_methodNamed B.named
  have hZ : Fx p c m s ([.ref (X.ad 0)] : List Value).toArray X cX7_nextToPut 3 RX7 := ⟨hx, hb, hml, hts, hown, hk⟩
  have hS : va_S X.A s.heap s.heap [] := va_S.rf
  have hl := lv_entry ([.ref (X.ad 0)]) (n := 3) (Nat.le_of_ble_eq_true rfl)
  rw [lg_entry_eq]
  generalize (lg_sl ([.ref (X.ad 0)]) ++ List.replicate (3 - (lg_sl ([.ref (X.ad 0)])).length) Slot.unset).toArray = ls at hl ⊢
  have hl : lv_has ls 3 [(0, .ref (X.ad 0))] := hl
  show WW p l e 4 96 s m [.ref (X.ad 0)] below meth c X (Qi X r M9) s.heap [] 0 ls []
  have hP : wd X M s.heap := hP
  unfold fn_X7_nextToPut at hf
  have key : ∀ (H : Heap) (locs : List Loc), wd X M H → va_S X.A s.heap H locs → WW p l e 4 96 s m [.ref (X.ad 0)] below meth c X (Qi X r M9) H locs 0 ls [] := by
    intro H locs hP hS
    refine lv_aload_n hx hb dX7_nextToPut_0 rfl (lv_at hl 0 rfl) ?_
    obtain ⟨M_1, h_M_1, hf⟩ := b_d hf
    refine k_X7_knownRelations hZ hP hS hl.1 wd_2_185 ⟨Nat.le_of_ble_eq_true rfl, Nat.le_of_ble_eq_true rfl⟩ (Nat.le_of_ble_eq_true rfl) dX7_nextToPut_1 ⟨Nat.zero_le _, Nat.zero_le _⟩ h_M_1 (fun H locs hP hS => ?_)
    refine lv_astore_n (lv' := [(1, .ref (X.ad 9)), (0, .ref (X.ad 0))]) hx hb dX7_nextToPut_4 rfl hl (by decide) rfl (fun ls hl => ?_)
    refine lv_iconst (v := (0 : Int32)) hx hb dX7_nextToPut_5 (by decide) ?_
    refine lv_istore_n (lv' := [(2, .int (0 : Int32)), (1, .ref (X.ad 9)), (0, .ref (X.ad 0))]) hx hb dX7_nextToPut_6 rfl hl (by decide) rfl (fun ls hl => ?_)
    obtain ⟨o7, ho7, hf⟩ := b_d hf
    refine lp_rule (b := bd_X7_nextToPut_7 g M_1) (P := fun w : Int32 => ∀ (H : Heap) (locs : List Loc) (ls : Array Slot), wd X M_1 H → va_S X.A s.heap H locs → lv_has ls 3 [(2, .int w), (1, .ref (X.ad 9)), (0, .ref (X.ad 0))] → WW p l e 4 96 s m [.ref (X.ad 0)] below meth c X (Qi X r M9) H locs 7 ls []) (K := fun o => (o = .inl () → ∀ (H : Heap) (locs : List Loc) (ls : Array Slot), wd X M_1 H → va_S X.A s.heap H locs → lv_has ls 3 [] → WW p l e 4 96 s m [.ref (X.ad 0)] below meth c X (Qi X r M9) H locs 57 ls []) ∧ (∀ rr : Int32 × Mem, o = .inr rr → rr = (r, M9))) ?_ g (0 : Int32) o7 ho7 ?_ H locs ls hP hS (lv_sub hl [0, 1, 2] rfl)
    · rintro v2_2 o hf hkc7 hke7 H locs ls hP hS hl
      have hf := u1_e hf
      refine lv_iload_n hx hb dX7_nextToPut_7 rfl (lv_at hl 0 rfl) ?_
      refine lv_aload_n hx hb dX7_nextToPut_8 rfl (lv_at hl 2 rfl) ?_
      refine gX7_0 hx hb hts hown hk hP wd_1_213 dX7_nextToPut_9 ?_
      refine gX1_2 hx hb hts hown hk hP isF_1 wd_1_40 dX7_nextToPut_12 ?_
      refine lv_icmp_ge (tgt := 57) hx hb dX7_nextToPut_15 (by decide) (fun c_3 => ?_) (fun c_3 => ?_)
      · have hf := i_t c_3 hf
        exact (hke7 _ (Option.some.inj hf).symm).1  rfl H locs ls hP hS (lv_sub hl [] rfl)
      · have hf := i_f c_3 hf
        refine lv_aload_n hx hb dX7_nextToPut_18 rfl (lv_at hl 2 rfl) ?_
        refine gX7_0 hx hb hts hown hk hP wd_1_213 dX7_nextToPut_19 ?_
        refine gX1_3 hx hb hts hown hk hP isF_1 wd_1_42 dX7_nextToPut_22 ?_
        refine lv_iload_n hx hb dX7_nextToPut_25 rfl (lv_at hl 0 rfl) ?_
        refine k_X7_has hZ hP hS hl.1 wd_2_178 ⟨Nat.le_of_ble_eq_true rfl, Nat.le_of_ble_eq_true rfl⟩ (Nat.le_of_ble_eq_true rfl) dX7_nextToPut_26 ⟨Nat.zero_le _, Nat.zero_le _⟩ (fun H locs hP hS => ?_)
        refine lv_if_ne (tgt := 51) hx hb dX7_nextToPut_29 (by decide) (fun c_4 => ?_) (fun c_4 => ?_)
        · have hf := i_f c_4 hf
          refine lv_iinc (v := v2_2 + (1 : Int32)) (lv' := [(2, .int (v2_2 + (1 : Int32))), (1, .ref (X.ad 9)), (0, .ref (X.ad 0))]) hx hb dX7_nextToPut_51 hl (k := 0) rfl rfl (by decide) rfl (fun ls hl => ?_)
          refine lv_goto (tgt := 7) hx hb dX7_nextToPut_54 (by decide) ?_
          exact hkc7 _ (Option.some.inj hf).symm H locs ls hP hS (lv_sub hl [0, 1, 2] rfl)
        · have hf := i_t c_4 hf
          refine lv_aload_n hx hb dX7_nextToPut_32 rfl (lv_at hl 1 rfl) ?_
          refine lv_iload_n hx hb dX7_nextToPut_33 rfl (lv_at hl 0 rfl) ?_
          refine lv_aload_n hx hb dX7_nextToPut_34 rfl (lv_at hl 2 rfl) ?_
          refine gX7_0 hx hb hts hown hk hP wd_1_213 dX7_nextToPut_35 ?_
          refine gX1_3 hx hb hts hown hk hP isF_1 wd_1_42 dX7_nextToPut_38 ?_
          obtain ⟨r_5, h_r_5, hf⟩ := b_d hf
          refine k_X5_firstWay hZ hP hS hl.1 wd_3_127 ⟨Nat.le_of_ble_eq_true rfl, Nat.le_of_ble_eq_true rfl⟩ (Nat.le_of_ble_eq_true rfl) dX7_nextToPut_41 ⟨Nat.zero_le _, Nat.zero_le _⟩ isR_9 h_r_5 (fun H locs hP hS => ?_)
          refine lv_bipush (v := (-9 : Int32)) hx hb dX7_nextToPut_44 (by decide) ?_
          refine lv_icmp_eq (tgt := 51) hx hb dX7_nextToPut_46 (by decide) (fun c_6 => ?_) (fun c_6 => ?_)
          · have hf := i_t c_6 hf
            refine lv_iinc (v := v2_2 + (1 : Int32)) (lv' := [(2, .int (v2_2 + (1 : Int32))), (1, .ref (X.ad 9)), (0, .ref (X.ad 0))]) hx hb dX7_nextToPut_51 hl (k := 0) rfl rfl (by decide) rfl (fun ls hl => ?_)
            refine lv_goto (tgt := 7) hx hb dX7_nextToPut_54 (by decide) ?_
            exact hkc7 _ (Option.some.inj hf).symm H locs ls hP hS (lv_sub hl [0, 1, 2] rfl)
          · have hf := i_f c_6 hf
            refine lv_iload_n hx hb dX7_nextToPut_49 rfl (lv_at hl 0 rfl) ?_
            have hf := (hke7 _ (Option.some.inj hf).symm).2 _ rfl
            obtain ⟨e1, e2⟩ := Prod.mk.inj hf
            rw [e2] at hP
            exact ret_i hx hb hr hlocks hP hS e1 dX7_nextToPut_50
    · refine ⟨?_, ?_⟩
      · intro  e H locs ls hP hS hl
        subst o7
        have hf := el_l hf
        refine lv_bipush (v := (-9 : Int32)) hx hb dX7_nextToPut_57 (by decide) ?_
        have hf := Option.some.inj hf
        obtain ⟨e1, e2⟩ := Prod.mk.inj hf
        rw [e2] at hP
        exact ret_i hx hb hr hlocks hP hS e1 dX7_nextToPut_59
      · intro rr e
        subst o7
        have hf := el_r hf
        exact Option.some.inj hf
  exact key s.heap [] hP hS
theorem hd_X7_nextToPut : Hd yX7_nextToPut 0 := by decide +kernel
theorem k_X7_nextToPut {p : Program} {l : Launch} {e : Env} {R : Room} {s : State} {m : MethodId} {args : Array Value} {below : List Frame} {meth : Method} {c : Code} {H : Heap} {locs : List Loc} {cells slots : Nat} {Q : State → Prop} {cc : ByteArray} {nL pc index : Nat} {ls : Array Slot} {rest : List Value} {X : En} {M : Mem} {H0 : Heap} {own : String} {g : Nat} {r : Int32} {M9 : Mem} (hZ : Fx p c m s args X cc nL own) (hP : wd X M H) (hS : va_S X.A H0 H locs) (hsz : ls.size = nL) (hlk : Cond.methodLink own index yX7_nextToPut ∈ lw_u) (hR : 4 + 1 ≤ R.frames ∧ 8 + (3 + 11) + 96 ≤ R.locals) (hW : (rest.map fun v => v.category).sum ≤ 8) (hdg : decode cc pc = .ok (.invokevirtual index, 3)) (hcs : cells ≤ R.cells ∧ slots ≤ R.slots) (hf : fn_X7_nextToPut g M = some (r, M9))
    (kk : ∀ (H1 : Heap) (locs1 : List Loc), wd X M9 H1 → va_S X.A H0 H1 locs1 → W p l e R s m args below meth c H1 locs1 cells slots Q (F0 m (pc + 3) ls (.int r :: rest))) : W p l e R s m args below meth c H locs cells slots Q (F0 m pc ls (.ref (X.ad 0) :: rest)) :=
  cal_i (runV (As := []) (rest := rest) hZ.1 hZ.2.1 hZ.2.2.1 hZ.2.2.2.1 hZ.2.2.2.2.1 hZ.2.2.2.2.2 hP (c_X7_nextToPut g M r M9 hf) wd_3_126 wd_3_125 wd_p_24 wd_1_1 hd_X7_nextToPut (by decide) rfl rfl rfl hlk hR hsz rfl hW hdg hcs) hS kk
