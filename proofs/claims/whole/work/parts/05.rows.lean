/-! ===== rows over the world of all cells ===== -/
abbrev Qi (X : En) (r : Int32) (M : Mem) : Array Value → State → Outcome → State → Prop := va_Qi (fun r' (_ : Unit) => r' = r) (fun _ t => wd X M t.heap) X.A
abbrev Ql (X : En) (r : Int64) (M : Mem) : Array Value → State → Outcome → State → Prop := va_Ql (fun r' (_ : Unit) => r' = r) (fun _ t => wd X M t.heap) X.A
abbrev Qv (X : En) (M : Mem) : Array Value → State → Outcome → State → Prop := va_Qv (fun (_ : Unit) => True) (fun _ t => wd X M t.heap) X.A
abbrev Qr (X : En) (k : Nat) (M : Mem) : Array Value → State → Outcome → State → Prop := va_Qr (fun (_ : Unit) => True) (fun _ a t => a = X.ad k ∧ wd X M t.heap) X.A
abbrev Pw (X : En) (av : List Value) (M : Mem) : Array Value → State → Prop := va_Pc av (fun U => wd X M U.heap ∧ kn X U)
abbrev Cn (l : Launch) (X : En) (y : MethodName) (cc : ByteArray) (n : Nat) (ret : Option FieldType) (f q : Nat) (av : List Value) (M : Mem) (Q : Array Value → State → Outcome → State → Prop) : Prop :=
  Met l y (Cond.code y cc n ret :: lw_u) ({ frames := f, cells := 0, slots := 0, locals := q } : Room) (Pw X av M) Q 0 0 X.A
theorem Pw_blind {X : En} {av : List Value} {M : Mem} : FrameBlind (Pw X av M) := fun a U g mk q => ⟨q.1, q.2.1, va_K.moved (u := U) (U := U.calling g mk a) (Vm.Alike.refl U.vm) q.2.2.1, nest_same (s := U) (U := U.calling g mk a) rfl q.2.2.2.1, q.2.2.2.2⟩
section RW
variable {p : Program} {l : Launch} {e : Env} {R : Room} {s : State} {m : MethodId} {args : Array Value} {below : List Frame} {meth : Method} {c : Code} {H : Heap} {locs : List Loc} {cells slots : Nat} {Q : State → Prop} {cc : ByteArray} {pc : Nat} {ls : Array Slot} {rest : List Value} {X : En} {M : Mem} {H0 : Heap} {own : String}
theorem gf (hx : p.tables.exec = Jvm.exec) (hb : c.code = cc) (hts : ∀ w ∈ lw_u, w.before args s = true) (hown : s.vm.findClass own = some m.cls) (hk : kn X s) (hP : wd X M H) {k : Nat} (hk71 : k < 71) {ci : Nat} {fs : List Value} (he : rd X k (M k) = .inr (ci, fs)) {C : String} {T : u_T} {N : Nat} (hc : cls[ci]? = some (C, T, N)) (hin : ∀ w ∈ u_ws C T N, w ∈ lw_u) (j : Nat) (hj : j < N) {index : Nat} (hlink : Cond.fieldLink own index (T j).1 (T j).2.1 (T j).2.2.1 ∈ lw_u) {v : Value} (hv : fs[j]? = some v) (hdg : decode cc pc = .ok (.getfield index, 3))
    (kk : W p l e R s m args below meth c H locs cells slots Q (F0 m (pc + 3) ls (v :: rest))) : W p l e R s m args below meth c H locs cells slots Q (F0 m pc ls (.ref (X.ad k) :: rest)) :=
  va_get hx hb hts hin hown hk.1 hP k (wsL_at X M hk71 he) hc j hj (hts _ hlink) (fun _ h => h) hv hdg kk
theorem gfN (hx : p.tables.exec = Jvm.exec) (hb : c.code = cc) (hts : ∀ w ∈ lw_u, w.before args s = true) (hown : s.vm.findClass own = some m.cls) (hk : kn X s) (hP : wd X M H) {k : Nat} (hk71 : k < 71) {ci : Nat} {fs : List Value} (he : rd X k (M k) = .inr (ci, fs)) {C host : String} {T : u_T} {N : Nat} (hc : cls[ci]? = some (C, T, N)) (hin : ∀ w ∈ u_ws C T N, w ∈ lw_u) (j : Nat) (hj : j < N) {index : Nat} (hlink : va_Nw (Cond.fieldLinkNest own index (T j).1 (T j).2.1 (T j).2.2.1 host) s) {v : Value} (hv : fs[j]? = some v) (hdg : decode cc pc = .ok (.getfield index, 3))
    (kk : W p l e R s m args below meth c H locs cells slots Q (F0 m (pc + 3) ls (v :: rest))) : W p l e R s m args below meth c H locs cells slots Q (F0 m pc ls (.ref (X.ad k) :: rest)) :=
  va_getN hx hb hts hin hown hk.1 hP k (wsL_at X M hk71 he) hc j hj (va_Nw.use rfl hlink) (fun _ h => h) hv hdg kk
theorem pf (hx : p.tables.exec = Jvm.exec) (hb : c.code = cc) (hts : ∀ w ∈ lw_u, w.before args s = true) (hown : s.vm.findClass own = some m.cls) (hk : kn X s) (hP : wd X M H) (hS : va_S X.A H0 H locs) {k : Nat} (hk71 : k < 71) {ci : Nat} {fs : List Value} (he : rd X k (M k) = .inr (ci, fs)) {C : String} {T : u_T} {N : Nat} (hc : cls[ci]? = some (C, T, N)) (hin : ∀ w ∈ u_ws C T N, w ∈ lw_u) (ty0 : Nat → FieldType) (hty : ∀ k, k < N → parseFieldDescriptor (T k).2.2.1 = some (ty0 k)) (hnm : ∀ a, a < N → ∀ b, b < N → a ≠ b → (T a).2.1 ≠ (T b).2.1) (j : Nat) (hj : j < N) {index : Nat} (hlink : Cond.fieldLink own index (T j).1 (T j).2.1 (T j).2.2.1 ∈ lw_u) (hfin : (T j).2.2.2 = false) {v : Value} (hn : narrow (ty0 j) v = v) (hfit : fits (ty0 j) v = true) (hl : j < fs.length) {f : Nat → Int32} (hset : rd X k f = .inr (ci, fs.set j v)) (hdg : decode cc pc = .ok (.putfield index, 3))
    (kk : ∀ (H1 : Heap) (locs1 : List Loc), wd X (stf M k f) H1 → va_S X.A H0 H1 locs1 → W p l e R s m args below meth c H1 locs1 cells slots Q (F0 m (pc + 3) ls rest)) : W p l e R s m args below meth c H locs cells slots Q (F0 m pc ls (v :: .ref (X.ad k) :: rest)) := by
  refine va_put hx hb hts hin ty0 hty hnm hown hk.1 hP (hk.2.2 M) hS k (wsL_at X M hk71 he) hc j hj (hts _ hlink) (fun _ h => h) hfin (hty j hj) hn hfit hl hdg (fun H1 locs1 hP1 _ hS1 => kk H1 locs1 ?_ hS1)
  rw [wsL_set X M hk71 hset] at hP1
  exact hP1
theorem ald (hx : p.tables.exec = Jvm.exec) (hb : c.code = cc) (hk : kn X s) (hP : wd X M H) {k n : Nat} (hk71 : k < 71) (he : rd X k (M k) = eI X n (M k)) {i : Int32} (hin : vp_in i n) (hdg : decode cc pc = .ok (.iaload, 1))
    (kk : W p l e R s m args below meth c H locs cells slots Q (F0 m (pc + 1) ls (.int (M k (ix i)) :: rest))) : W p l e R s m args below meth c H locs cells slots Q (F0 m pc ls (.int i :: .ref (X.ad k) :: rest)) :=
  va_iald hx hb hk.1 hP k 0 (wsL_at X M hk71 he) rfl hin hdg kk
theorem zald (hx : p.tables.exec = Jvm.exec) (hb : c.code = cc) (hk : kn X s) (hP : wd X M H) {k n : Nat} (hk71 : k < 71) (he : rd X k (M k) = eZ X n (M k)) {i : Int32} (hin : vp_in i n) (hdg : decode cc pc = .ok (.baload, 1))
    (kk : W p l e R s m args below meth c H locs cells slots Q (F0 m (pc + 1) ls (.int (M k (ix i)) :: rest))) : W p l e R s m args below meth c H locs cells slots Q (F0 m pc ls (.int i :: .ref (X.ad k) :: rest)) :=
  va_zald hx hb hk.1 hP k 1 (wsL_at X M hk71 he) rfl hin hdg kk
theorem aald (hx : p.tables.exec = Jvm.exec) (hb : c.code = cc) (hk : kn X s) (hP : wd X M H) {i : Int32} (hin : vp_in i 8) (hdg : decode cc pc = .ok (.aaload, 1))
    (kk : W p l e R s m args below meth c H locs cells slots Q (F0 m (pc + 1) ls (.ref (X.ad (23 + 3 * ix i)) :: rest))) : W p l e R s m args below meth c H locs cells slots Q (F0 m pc ls (.int i :: .ref (X.ad 22) :: rest)) :=
  va_aldq hx hb hk.1 hP 22 2 (wsL_at X M (by decide) (e := eSta X (M 22)) rfl) rfl hin hdg kk
theorem ast (hx : p.tables.exec = Jvm.exec) (hb : c.code = cc) (hk : kn X s) (hP : wd X M H) (hS : va_S X.A H0 H locs) {k n : Nat} (hk71 : k < 71) (he : ∀ f, rd X k f = eI X n f) {i v : Int32} (hin : vp_in i n) (hdg : decode cc pc = .ok (.iastore, 1))
    (kk : ∀ (H1 : Heap) (locs1 : List Loc), wd X (st M k (ix i) v) H1 → va_S X.A H0 H1 locs1 → W p l e R s m args below meth c H1 locs1 cells slots Q (F0 m (pc + 1) ls rest)) : W p l e R s m args below meth c H locs cells slots Q (F0 m pc ls (.int v :: .int i :: .ref (X.ad k) :: rest)) := by
  refine va_iast hx hb hk.1 hP (hk.2.2 M) hS k 0 (wsL_at X M hk71 (he (M k))) rfl hin hdg (fun H1 locs1 hP1 _ hS1 => kk H1 locs1 ?_ hS1)
  have h := wsL_set X M hk71 (he (upd (M k) (ix i) v))
  rw [st_stf] at h
  show va_P _ _ _ _
  rw [← h]
  exact hP1
theorem zast (hx : p.tables.exec = Jvm.exec) (hb : c.code = cc) (hk : kn X s) (hP : wd X M H) (hS : va_S X.A H0 H locs) {k n : Nat} (hk71 : k < 71) (he : ∀ f, rd X k f = eZ X n f) {i v : Int32} (hin : vp_in i n) (hz : isZ v) (hdg : decode cc pc = .ok (.bastore, 1))
    (kk : ∀ (H1 : Heap) (locs1 : List Loc), wd X (st M k (ix i) v) H1 → va_S X.A H0 H1 locs1 → W p l e R s m args below meth c H1 locs1 cells slots Q (F0 m (pc + 1) ls rest)) : W p l e R s m args below meth c H locs cells slots Q (F0 m pc ls (.int v :: .int i :: .ref (X.ad k) :: rest)) := by
  refine va_zast hx hb hk.1 hP (hk.2.2 M) hS k 1 (wsL_at X M hk71 (he (M k))) rfl hin hdg (fun H1 locs1 hP1 _ hS1 => kk H1 locs1 ?_ hS1)
  have h := wsL_set X M hk71 (he (upd (M k) (ix i) v))
  rw [st_stf] at h
  show va_P _ _ _ _
  rw [← h]
  rw [isZ_vp hz] at hP1
  exact hP1
theorem acp (hx : p.tables.exec = Jvm.exec) (hb : c.code = cc) (hml : c.maxLocals = ls.size) (hts : ∀ w ∈ lw_u, w.before args s = true) (hown : s.vm.findClass own = some m.cls) (hk : kn X s) (hP : wd X M H) (hS : va_S X.A H0 H locs) {index : Nat} (hlink : Cond.methodLink own index arraycopyName ∈ lw_u) (hnat : Cond.native arraycopyName ∈ lw_u) (hstat : Cond.static arraycopyName ∈ lw_u) (hini : Cond.initialized "java/lang/System" ∈ lw_u)
    {k0 k1 n : Nat} (h0 : k0 < 71) (h1 : k1 < 71) (e0 : ∀ f, rd X k0 f = eI X n f) (e1 : ∀ f, rd X k1 f = eI X n f) {v : Int32} (hv : v = nI n) (hn : n < 2 ^ 31) (hframes : 1 ≤ R.frames) (hlocals : (rest.map fun v => v.category).sum + (nativeFrameWords "java/lang/System" "arraycopy" 5 + 11) ≤ R.locals) (hdg : decode cc pc = .ok (.invokestatic index, 3))
    (kk : ∀ (H1 : Heap) (locs1 : List Loc), wd X (stf M k1 (va_cpy (M k0) (M k1) 0 0 n)) H1 → va_S X.A H0 H1 locs1 → W p l e R s m args below meth c H1 locs1 cells slots Q (F0 m (pc + 3) ls rest)) : W p l e R s m args below meth c H locs cells slots Q (F0 m pc ls (.int v :: .int 0 :: .ref (X.ad k1) :: .int 0 :: .ref (X.ad k0) :: rest)) := by
  subst hv
  have hc : (nI n).toNatClampNeg = n := nI_clamp hn
  refine va_copyi hx hb hml hown (hts _ hlink) (hts _ hnat) (hts _ hstat) (hts _ hini) hk.1 hP (hk.2.2 M) hS k0 k1 0 0 (wsL_at X M h0 (e0 (M k0))) (wsL_at X M h1 (e1 (M k1))) rfl rfl rfl (by decide) (by decide) (nI_pos hn) (by rw [hc]; show 0 + n ≤ n; omega) (by rw [hc]; show 0 + n ≤ n; omega) (fun i _ => rfl) hframes hlocals hdg (fun H1 locs1 hP1 _ hS1 => kk H1 locs1 ?_ hS1)
  rw [hc] at hP1
  have h := wsL_set X M h1 (e1 (va_cpy (M k0) (M k1) 0 0 n))
  show va_P _ _ _ _
  rw [← h]
  exact hP1
/-! calls -/
theorem pwS {av : List Value} (hk : kn X s) (hP : wd X M H) : PreS s H (Pw X av M) av := ⟨Pw_blind, fun U hU hW => ⟨rfl, by rw [hU]; exact hP, kn_moved hW hk⟩⟩
theorem pwV {k ci : Nat} {fs : List Value} {C : String} {T : u_T} {N : Nat} {As : List Value} (hk : kn X s) (hP : wd X M H) (hk71 : k < 71) (he : rd X k (M k) = .inr (ci, fs)) (hc : cls[ci]? = some (C, T, N)) : PreV s H C (X.ad k) (Pw X (.ref (X.ad k) :: As) M) As :=
  ⟨Pw_blind, va_recv hk.1 hP hc (wsL_at X M hk71 he), fun U hU hW => ⟨rfl, by rw [hU]; exact hP, kn_moved hW hk⟩⟩
variable {y : MethodName} {bytes : ByteArray} {maxL nL n index f q : Nat} {ret : Option FieldType} {Qc : Array Value → State → Outcome → State → Prop} {As : List Value} {st0 : List Value}
abbrev Hd (y : MethodName) (n : Nat) : Prop := y.cls ≠ "java/lang/invoke/MethodHandle" ∧ y.cls ≠ "java/lang/invoke/VarHandle" ∧ (parseMethodDescriptor y.desc).map (fun d => d.parameters.length) = some n
theorem runV {k ci : Nat} {fs : List Value} {C : String} {T : u_T} {N : Nat} (hx : p.tables.exec = Jvm.exec) (hb : c.code = cc) (hml : c.maxLocals = nL) (hts : ∀ w ∈ lw_u, w.before args s = true) (hown : s.vm.findClass own = some m.cls) (hk : kn X s) (hP : wd X M H) (hM : Cn l X y bytes maxL ret f q (.ref (X.ad k) :: As) M Qc)
    (hcode : Cond.code y bytes maxL ret ∈ lw_u) (hin : Cond.instanceMethod y ∈ lw_u) (hsel : Cond.selects C y y ∈ lw_u) (hini : Cond.initialized y.cls ∈ lw_u) (hd : Hd y n) (hk71 : k < 71) (he : rd X k (M k) = .inr (ci, fs)) (hc : cls[ci]? = some (C, T, N)) (hn : As.length = n)
    (hlk : Cond.methodLink own index y ∈ lw_u) (hR : f + 1 ≤ R.frames ∧ 8 + (maxL + 11) + q ≤ R.locals) (hsize : ls.size = nL) (hst : st0 = As.reverse ++ .ref (X.ad k) :: rest) (hW : (rest.map fun v => v.category).sum ≤ 8) (hdg : decode cc pc = .ok (.invokevirtual index, 3)) (hcs : cells ≤ R.cells ∧ slots ≤ R.slots) :
    va_Run p l e R s m args below meth c H locs cells slots 0 0 (F0 m pc ls st0) rest (Qc (Value.ref (X.ad k) :: As).toArray) X.A :=
  va_runV (Ts := lw_u) ⟨hx, hb, hml, hown, hts⟩ hM ⟨callB_of n hts (gdl hcode) rfl rfl rfl (hts _ hini) (hts _ hlk) hd hR, hts _ hin, hts _ hsel⟩ (pwV hk hP hk71 he hc) rfl hn hsize hst (lv_room hW) hdg hcs
theorem runS (hx : p.tables.exec = Jvm.exec) (hb : c.code = cc) (hml : c.maxLocals = nL) (hts : ∀ w ∈ lw_u, w.before args s = true) (hown : s.vm.findClass own = some m.cls) (hk : kn X s) (hP : wd X M H) (hM : Cn l X y bytes maxL ret f q As M Qc)
    (hcode : Cond.code y bytes maxL ret ∈ lw_u) (hin : Cond.static y ∈ lw_u) (hini : Cond.initialized y.cls ∈ lw_u) (hd : Hd y n) (hn : As.length = n)
    (hlk : Cond.methodLink own index y ∈ lw_u) (hR : f + 1 ≤ R.frames ∧ 8 + (maxL + 11) + q ≤ R.locals) (hsize : ls.size = nL) (hst : st0 = As.reverse ++ rest) (hW : (rest.map fun v => v.category).sum ≤ 8) (hdg : decode cc pc = .ok (.invokestatic index, 3)) (hcs : cells ≤ R.cells ∧ slots ≤ R.slots) :
    va_Run p l e R s m args below meth c H locs cells slots 0 0 (F0 m pc ls st0) rest (Qc As.toArray) X.A :=
  va_runS (Ts := lw_u) ⟨hx, hb, hml, hown, hts⟩ hM ⟨callB_of n hts (gdl hcode) rfl rfl rfl (hts _ hini) (hts _ hlk) hd hR, hts _ hin⟩ (pwS hk hP) rfl hn hsize hst (lv_room hW) hdg hcs
theorem runSN {host : String} (hx : p.tables.exec = Jvm.exec) (hb : c.code = cc) (hml : c.maxLocals = nL) (hts : ∀ w ∈ lw_u, w.before args s = true) (hown : s.vm.findClass own = some m.cls) (hk : kn X s) (hP : wd X M H) (hM : Cn l X y bytes maxL ret f q As M Qc)
    (hcode : Cond.code y bytes maxL ret ∈ lw_u) (hin : Cond.static y ∈ lw_u) (hini : Cond.initialized y.cls ∈ lw_u) (hd : Hd y n) (hn : As.length = n)
    (hlk : va_Nw (Cond.methodLinkNest own index y host) s) (hR : f + 1 ≤ R.frames ∧ 8 + (maxL + 11) + q ≤ R.locals) (hsize : ls.size = nL) (hst : st0 = As.reverse ++ rest) (hW : (rest.map fun v => v.category).sum ≤ 8) (hdg : decode cc pc = .ok (.invokestatic index, 3)) (hcs : cells ≤ R.cells ∧ slots ≤ R.slots) :
    va_Run p l e R s m args below meth c H locs cells slots 0 0 (F0 m pc ls st0) rest (Qc As.toArray) X.A :=
  va_runSN (Ts := lw_u) ⟨hx, hb, hml, hown, hts⟩ hM ⟨va_cnB n hts (gdl hcode) rfl rfl rfl hlk (hts _ hini) hd hR, hts _ hin, trivial⟩ (pwS hk hP) rfl hn hsize hst (lv_room hW) hdg hcs
variable {M' : Mem} {r : Int32} {rl : Int64} {a : Array Value}
theorem cal_i (hr : va_Run p l e R s m args below meth c H locs cells slots 0 0 (F0 m pc ls st0) rest (Qi X r M' a) X.A) (hS : va_S X.A H0 H locs) (kk : ∀ (H1 : Heap) (locs1 : List Loc), wd X M' H1 → va_S X.A H0 H1 locs1 → W p l e R s m args below meth c H1 locs1 cells slots Q (F0 m (pc + 3) ls (.int r :: rest))) : W p l e R s m args below meth c H locs cells slots Q (F0 m pc ls st0) :=
  va_calli hr hS (fun _ _ h => h) (fun _ h => h) (fun r1 u t H1 locs1 ht hvm hw hB hz1 hk1 hS1 => by subst hw; exact kk H1 locs1 (by rw [← ht]; exact hB) hS1)
theorem cal_l (hr : va_Run p l e R s m args below meth c H locs cells slots 0 0 (F0 m pc ls st0) rest (Ql X rl M' a) X.A) (hS : va_S X.A H0 H locs) (kk : ∀ (H1 : Heap) (locs1 : List Loc), wd X M' H1 → va_S X.A H0 H1 locs1 → W p l e R s m args below meth c H1 locs1 cells slots Q (F0 m (pc + 3) ls (.long rl :: rest))) : W p l e R s m args below meth c H locs cells slots Q (F0 m pc ls st0) :=
  va_calll hr hS (fun _ _ h => h) (fun _ h => h) (fun r1 u t H1 locs1 ht hvm hw hB hz1 hk1 hS1 => by subst hw; exact kk H1 locs1 (by rw [← ht]; exact hB) hS1)
theorem cal_v (hr : va_Run p l e R s m args below meth c H locs cells slots 0 0 (F0 m pc ls st0) rest (Qv X M' a) X.A) (hS : va_S X.A H0 H locs) (kk : ∀ (H1 : Heap) (locs1 : List Loc), wd X M' H1 → va_S X.A H0 H1 locs1 → W p l e R s m args below meth c H1 locs1 cells slots Q (F0 m (pc + 3) ls rest)) : W p l e R s m args below meth c H locs cells slots Q (F0 m pc ls st0) :=
  va_callv hr hS (fun _ _ h => h) (fun _ h => h) (fun u t H1 locs1 ht hvm hw hB hz1 hk1 hS1 => kk H1 locs1 (by rw [← ht]; exact hB) hS1)
theorem cal_r {k : Nat} (hr : va_Run p l e R s m args below meth c H locs cells slots 0 0 (F0 m pc ls st0) rest (Qr X k M' a) X.A) (hS : va_S X.A H0 H locs) (kk : ∀ (H1 : Heap) (locs1 : List Loc), wd X M' H1 → va_S X.A H0 H1 locs1 → W p l e R s m args below meth c H1 locs1 cells slots Q (F0 m (pc + 3) ls (.ref (X.ad k) :: rest))) : W p l e R s m args below meth c H locs cells slots Q (F0 m pc ls st0) :=
  va_callr hr hS (fun _ _ h => h) (fun _ h => h) (fun u ra t H1 locs1 ht hvm hw hB hz1 hk1 hS1 => by obtain ⟨h1, h2⟩ := hB; subst h1; exact kk H1 locs1 (by rw [← ht]; exact h2) hS1)
/-! ends -/
theorem ret_i {v : Int32} (hx : p.tables.exec = Jvm.exec) (hb : c.code = cc) (hr : meth.sig.returnType = some .int) (hlocks : meth.locks = false) (hP : wd X M H) (hS : va_S X.A s.heap H locs) (he : v = r) (hdg : decode cc pc = .ok (.ireturn, 1)) : W p l e R s m args below meth c H locs cells slots (MQ below (Qi X r M) args s cells slots X.A) (F0 m pc ls [.int v]) :=
  W.iret (v := v) hx hb hr (fun t ht hW => ⟨⟨v, (), rfl, he, by rw [ht]; exact hP⟩, hS.F ht⟩) hS.2.2 hdg hlocks
theorem ret_z {v : Int32} (hx : p.tables.exec = Jvm.exec) (hb : c.code = cc) (hr : meth.sig.returnType = some .boolean) (hlocks : meth.locks = false) (hP : wd X M H) (hS : va_S X.A s.heap H locs) (hz : isZ v) (he : v = r) (hdg : decode cc pc = .ok (.ireturn, 1)) : W p l e R s m args below meth c H locs cells slots (MQ below (Qi X r M) args s cells slots X.A) (F0 m pc ls [.int v]) :=
  W.zret (v := v) hx hb hr (isZ_nar hz) (fun t ht hW => ⟨⟨v, (), rfl, he, by rw [ht]; exact hP⟩, hS.F ht⟩) hS.2.2 hdg hlocks
theorem ret_l {v : Int64} (hx : p.tables.exec = Jvm.exec) (hb : c.code = cc) (hr : meth.sig.returnType = some .long) (hlocks : meth.locks = false) (hP : wd X M H) (hS : va_S X.A s.heap H locs) (he : v = rl) (hdg : decode cc pc = .ok (.lreturn, 1)) : W p l e R s m args below meth c H locs cells slots (MQ below (Ql X rl M) args s cells slots X.A) (F0 m pc ls [.long v]) :=
  W.lret (v := v) hx hb hr (fun t ht hW => ⟨⟨v, (), rfl, he, by rw [ht]; exact hP⟩, hS.F ht⟩) hS.2.2 hdg hlocks
theorem ret_v (hx : p.tables.exec = Jvm.exec) (hb : c.code = cc) (hr : meth.sig.returnType = none) (hlocks : meth.locks = false) (hP : wd X M H) (hS : va_S X.A s.heap H locs) (hdg : decode cc pc = .ok (.return_, 1)) : W p l e R s m args below meth c H locs cells slots (MQ below (Qv X M) args s cells slots X.A) (F0 m pc ls []) :=
  W.vret hx hb hr (fun t ht hW => ⟨⟨(), rfl, trivial, by rw [ht]; exact hP⟩, hS.F ht⟩) hS.2.2 hdg hlocks
theorem ret_r {k : Nat} {C : String} (hx : p.tables.exec = Jvm.exec) (hb : c.code = cc) (hr : meth.sig.returnType = some (.object C)) (hlocks : meth.locks = false) (hP : wd X M H) (hS : va_S X.A s.heap H locs) (hdg : decode cc pc = .ok (.areturn, 1)) : W p l e R s m args below meth c H locs cells slots (MQ below (Qr X k M) args s cells slots X.A) (F0 m pc ls [.ref (X.ad k)]) :=
  W.aret (v := .ref (X.ad k)) hx hb hr (Or.inl ⟨C, rfl⟩) (Or.inr ⟨_, rfl⟩) (fun t ht hW => ⟨⟨(), X.ad k, rfl, trivial, rfl, by rw [ht]; exact hP⟩, hS.F ht⟩) hS.2.2 hdg hlocks
end RW
