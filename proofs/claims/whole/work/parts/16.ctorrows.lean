/-! ===== constructors: worlds as lists ===== -/
abbrev E3 : Type := va_G × ClassId × ClassId × ClassId
abbrev t3 (G : E3) : List (ClassId × FieldType) := [(G.2.1, .int), (G.2.2.1, .boolean), (G.2.2.2, .object RX1)]
def K0 (G : E3) (U : State) : Prop := va_K G.1 cls (t3 G) U ∧ nest U ∧ va_AO RX1 U
theorem K0_warm {G : E3} {s U : State} (hW : s.WarmedH U.vm) (h : K0 G s) : K0 G U := ⟨va_K.moved hW.alike h.1, nest_warm hW h.2.1, va_AO.moved hW.alike h.2.2⟩
theorem K0_same {G : E3} {s U : State} (hW : s.vm = U.vm) (h : K0 G s) : K0 G U := ⟨va_K.moved (by rw [hW]; exact Vm.Alike.refl _) h.1, nest_same hW h.2.1, va_AO.moved (by rw [hW]; exact Vm.Alike.refl _) h.2.2⟩
abbrev PwC (G : E3) (av : List Value) (ws : va_W) (sz : Nat) : Array Value → State → Prop := va_Pc av (fun U => U.heap.size = sz ∧ va_P G.1 cls ws U.heap ∧ K0 G U ∧ va_D (fun _ => True) ws)
theorem PwC_blind {G : E3} {av : List Value} {ws : va_W} {sz : Nat} : FrameBlind (PwC G av ws sz) := fun a U g mk q => ⟨q.1, q.2.1, q.2.2.1, K0_same (s := U) (U := U.calling g mk a) rfl q.2.2.2.1, q.2.2.2.2⟩
abbrev QvC (G : E3) (ws : va_W) (sz : Nat) (P : va_W → Prop) : Array Value → State → Outcome → State → Prop := va_Qv (fun (_ : Unit) => True) (fun _ t => ∃ w, P w ∧ va_P G.1 cls w t.heap ∧ va_D (va_A ws sz) w) (va_A ws sz)
abbrev Ct (l : Launch) (G : E3) (y : MethodName) (bytes : ByteArray) (maxL f mc ms q : Nat) (av : List Value) (ws : va_W) (sz : Nat) (P : va_W → Prop) : Prop :=
  Met l y (Cond.code y bytes maxL none :: lw_u) ({ frames := f, cells := mc, slots := ms, locals := q } : Room) (PwC G av ws sz) (QvC G ws sz P) mc ms (va_A ws sz)
theorem wZ : Cond.arrayClass FieldType.boolean ∈ lw_u := tb1 (List.mem_of_getElem? (i := 150) (by decide +kernel)) (by decide +kernel)
section CR
variable {p : Program} {l : Launch} {e : Env} {R : Room} {s : State} {m : MethodId} {args : Array Value} {below : List Frame} {meth : Method} {c : Code} {H : Heap} {locs : List Loc} {cells slots : Nat} {Q : State → Prop} {cc : ByteArray} {pc : Nat} {ls : Array Slot} {rest : List Value} {G : E3} {H0 : Heap} {own : String} {A : Nat → Prop} {pre ws w0 : va_W} {y : MethodName} {bytes : ByteArray} {maxL nL n index f q mc ms : Nat} {As st0 av : List Value} {P : va_W → Prop} {a : Array Value}
theorem pwC (hK : K0 G s) (hP : va_P G.1 cls w0 H) (hD : va_D A w0) : PreS s H (PwC G av w0 H.size) av := ⟨PwC_blind, fun U hU hW => ⟨rfl, by rw [hU], by rw [hU]; exact hP, K0_warm hW hK, hD.weaken (fun _ _ _ _ => trivial)⟩⟩
theorem app_r {X : va_W} {Y : va_W} {k : Nat} {x : Nat × va_E} (h : Y[k]? = some x) : (X ++ Y)[X.length + k]? = some x := by
  rw [List.getElem?_append_right (by omega), Nat.add_sub_cancel_left]; exact h
theorem app_l {X : va_W} {Y : va_W} {k : Nat} {x : Nat × va_E} (h : X[k]? = some x) : (X ++ Y)[k]? = some x := by
  rw [List.getElem?_append_left (List.getElem?_eq_some_iff.mp h).1]; exact h
theorem dR {A : Nat → Prop} {X Y : va_W} (h : va_D A (X ++ Y)) : va_D A Y := by
  refine ⟨fun i j x z hx hz e => ?_, fun k x hx => h.2 _ x (app_r (X := X) hx)⟩
  have := h.1 _ _ x z (app_r (X := X) hx) (app_r (X := X) hz) e
  omega
theorem dL {A : Nat → Prop} {X Y : va_W} (h : va_D A (X ++ Y)) : va_D A X := ⟨fun i j x z hx hz e => h.1 _ _ x z (app_l hx) (app_l hz) e, fun k x hx => h.2 _ x (app_l hx)⟩
theorem ctor_go (hr : va_Run p l e R s m args below meth c H locs cells slots mc ms (F0 m pc ls st0) rest (QvC G w0 H.size P a) (va_A w0 H.size)) (hP : va_P G.1 cls (pre ++ w0) H) (hD : va_D A (pre ++ w0)) (hS : va_S A H0 H locs) (hA : ∀ q, H0.size ≤ q → A q)
    (kk : ∀ (w : va_W) (H1 : Heap) (locs1 : List Loc), P w → va_P G.1 cls (pre ++ w) H1 → va_D A (pre ++ w) → va_S A H0 H1 locs1 → W p l e R s m args below meth c H1 locs1 (cells + mc) (slots + ms) Q (F0 m (pc + 3) ls rest)) : W p l e R s m args below meth c H locs cells slots Q (F0 m pc ls st0) := by
  have hF : ∀ x, va_A w0 H.size x → A x := by
    intro x h
    rcases h with ⟨k, e, h⟩ | h
    · exact hD.2 _ (x, e) (app_r (X := pre) h)
    · exact hA x (Nat.le_trans hS.1 h)
  refine va_callv hr hS (fun q _ h => hF q h) hF (fun u t H1 locs1 ht hvm hw hB hz1 hk1 hS1 => ?_)
  obtain ⟨w, hPw, hP1, hD1⟩ := hB
  rw [ht] at hP1
  have ap : ∀ (k : Nat) (x : Nat × va_E), pre[k]? = some x → x.1 < H.size ∧ ¬ va_A w0 H.size x.1 := by
    intro k x hx
    have hl := (hP k x (app_l hx)).lt
    refine ⟨hl, fun h => ?_⟩
    rcases h with ⟨k2, e2, h⟩ | h
    · have h1 := hD.1 k _ x (x.1, e2) (app_l hx) (app_r (X := pre) h) rfl
      have h2 := (List.getElem?_eq_some_iff.mp hx).1
      omega
    · omega
  refine kk w H1 locs1 hPw (va_P.app (fun k x hx => ?_) hP1) (va_D.app (dL hD) (hD1.weaken (fun k x _ h => hF x.1 h)) (fun i j x z hx hz hxz => ?_)) hS1
  · obtain ⟨g1, g2⟩ := ap k x hx
    exact (hP k x (app_l hx)).kept (hk1 x.1 g1 g2)
  · exact (ap i x hx).2 (by rw [hxz]; exact hD1.2 j z hz)
theorem pR {X Y : va_W} (h : va_P G.1 cls (X ++ Y) H) : va_P G.1 cls Y H := fun k x hx => h _ x (app_r (X := X) hx)
theorem kI {e0 : va_E} {b : Nat} (hx : p.tables.exec = Jvm.exec) (hb : c.code = cc) (hml : c.maxLocals = nL) (hts : ∀ w ∈ lw_u, w.before args s = true) (hown : s.vm.findClass own = some m.cls) (hK : K0 G s) (hP : va_P G.1 cls (pre ++ [(b, e0)]) H) (hD : va_D A (pre ++ [(b, e0)])) (hS : va_S A H0 H locs) (hA : ∀ q, H0.size ≤ q → A q) (hC : Ct l G y bytes maxL f mc ms q (.ref b :: As) [(b, e0)] H.size P)
    (hcode : Cond.code y bytes maxL none ∈ lw_u) (hin : Cond.instanceMethod y ∈ lw_u) (hini : Cond.initialized y.cls ∈ lw_u) (hd : Hd y n) (hy : y.name = "<init>") (hn : As.length = n) (hlk : Cond.methodLink own index y ∈ lw_u) (hR : f + 1 ≤ R.frames ∧ 8 + (maxL + 11) + q ≤ R.locals) (hsz : ls.size = nL) (hst : st0 = As.reverse ++ .ref b :: rest) (hW : (rest.map fun v => v.category).sum ≤ 8) (hdg : decode cc pc = .ok (.invokespecial index, 3)) (hcs : cells + mc ≤ R.cells ∧ slots + ms ≤ R.slots)
    (kk : ∀ (w : va_W) (H1 : Heap) (locs1 : List Loc), P w → va_P G.1 cls (pre ++ w) H1 → va_D A (pre ++ w) → va_S A H0 H1 locs1 → W p l e R s m args below meth c H1 locs1 (cells + mc) (slots + ms) Q (F0 m (pc + 3) ls rest)) : W p l e R s m args below meth c H locs cells slots Q (F0 m pc ls st0) :=
  ctor_go (va_runI (Ts := lw_u) (As := As) (rest := rest) ⟨hx, hb, hml, hown, hts⟩ hC ⟨callB_of n hts (gdl hcode) rfl rfl rfl (hts _ hini) (hts _ hlk) hd hR, hy, hts _ hin⟩ (pwC hK (pR hP) (dR hD)) rfl hn hsz hst (lv_room hW) hdg hcs) hP hD hS hA kk
theorem kIN {e0 : va_E} {b : Nat} {host : String} (hx : p.tables.exec = Jvm.exec) (hb : c.code = cc) (hml : c.maxLocals = nL) (hts : ∀ w ∈ lw_u, w.before args s = true) (hown : s.vm.findClass own = some m.cls) (hK : K0 G s) (hP : va_P G.1 cls (pre ++ [(b, e0)]) H) (hD : va_D A (pre ++ [(b, e0)])) (hS : va_S A H0 H locs) (hA : ∀ q, H0.size ≤ q → A q) (hC : Ct l G y bytes maxL f mc ms q (.ref b :: As) [(b, e0)] H.size P)
    (hcode : Cond.code y bytes maxL none ∈ lw_u) (hin : Cond.instanceMethod y ∈ lw_u) (hini : Cond.initialized y.cls ∈ lw_u) (hd : Hd y n) (hy : y.name = "<init>") (hn : As.length = n) (hlk : va_Nw (Cond.methodLinkNest own index y host) s) (hR : f + 1 ≤ R.frames ∧ 8 + (maxL + 11) + q ≤ R.locals) (hsz : ls.size = nL) (hst : st0 = As.reverse ++ .ref b :: rest) (hW : (rest.map fun v => v.category).sum ≤ 8) (hdg : decode cc pc = .ok (.invokespecial index, 3)) (hcs : cells + mc ≤ R.cells ∧ slots + ms ≤ R.slots)
    (kk : ∀ (w : va_W) (H1 : Heap) (locs1 : List Loc), P w → va_P G.1 cls (pre ++ w) H1 → va_D A (pre ++ w) → va_S A H0 H1 locs1 → W p l e R s m args below meth c H1 locs1 (cells + mc) (slots + ms) Q (F0 m (pc + 3) ls rest)) : W p l e R s m args below meth c H locs cells slots Q (F0 m pc ls st0) :=
  ctor_go (va_runIN (Ts := lw_u) (As := As) (rest := rest) ⟨hx, hb, hml, hown, hts⟩ hC ⟨va_cnB n hts (gdl hcode) rfl rfl rfl hlk (hts _ hini) hd hR, hy, hts _ hin⟩ (pwC hK (pR hP) (dR hD)) rfl hn hsz hst (lv_room hW) hdg hcs) hP hD hS hA kk
theorem cA_I {cA : ClassId} (h : va_K G.1 cls (t3 G ++ [(cA, .int)]) s) : cA = G.2.1 := Option.some.inj ((show s.vm.findClass _ = some cA from (h.2 3 _ rfl).2).symm.trans (show s.vm.findClass _ = some G.2.1 from (h.2 0 _ rfl).2))
theorem cA_Z {cA : ClassId} (h : va_K G.1 cls (t3 G ++ [(cA, .boolean)]) s) : cA = G.2.2.1 := Option.some.inj ((show s.vm.findClass _ = some cA from (h.2 3 _ rfl).2).symm.trans (show s.vm.findClass _ = some G.2.2.1 from (h.2 1 _ rfl).2))
theorem cA_F {cA : ClassId} (h : va_K G.1 cls (t3 G ++ [(cA, .object RX1)]) s) : cA = G.2.2.2 := by
  obtain ⟨_, _, -, -, -, h1⟩ := (h.2 3 _ rfl).2
  obtain ⟨_, _, -, -, -, h2⟩ := (h.2 2 _ rfl).2
  exact Option.some.inj (h1.symm.trans h2)
theorem nwI (hx : p.tables.exec = Jvm.exec) (hb : c.code = cc) (hts : ∀ w ∈ lw_u, w.before args s = true) (hK : K0 G s) (hP : va_P G.1 cls ws H) (hD : va_D A ws) (hS : va_S A H0 H locs) (hA : ∀ q, H0.size ≤ q → A q) {v : Int32} (N : Nat) (h0 : ¬ v < 0) (hv : v.toNatClampNeg = N) (hN : N * 4 ≤ 536870912) (hcells : cells + 1 ≤ R.cells) (hslots : slots + N ≤ R.slots) (hdg : decode cc pc = .ok (.newarray .int, 2))
    (kk : ∀ (b : Nat) (H1 : Heap), va_P G.1 cls (ws ++ [(b, .inl (G.2.1, N, .inl (fun _ => 0)))]) H1 → va_D A (ws ++ [(b, .inl (G.2.1, N, .inl (fun _ => 0)))]) → va_S A H0 H1 locs → W p l e R s m args below meth c H1 locs (cells + 1) (slots + N) Q (F0 m (pc + 2) ls (.ref b :: rest))) : W p l e R s m args below meth c H locs cells slots Q (F0 m pc ls (.int v :: rest)) :=
  va_newa (atype := .int) (ty := .int) hx hb (hts _ wd_1_56) rfl hK.1 hP hD hS hA (a0 := (N, .inl fun _ => 0)) (fun _ => rfl) h0 hv hN hcells hslots hdg (fun b cA H1 hK1 hP1 hD1 hS1 => by have e := cA_I hK1; subst e; exact kk b H1 hP1 hD1 hS1)
theorem nwZ (hx : p.tables.exec = Jvm.exec) (hb : c.code = cc) (hts : ∀ w ∈ lw_u, w.before args s = true) (hK : K0 G s) (hP : va_P G.1 cls ws H) (hD : va_D A ws) (hS : va_S A H0 H locs) (hA : ∀ q, H0.size ≤ q → A q) {v : Int32} (N : Nat) (h0 : ¬ v < 0) (hv : v.toNatClampNeg = N) (hN : N * componentBytes .boolean ≤ 536870912) (hcells : cells + 1 ≤ R.cells) (hslots : slots + N ≤ R.slots) (hdg : decode cc pc = .ok (.newarray .boolean, 2))
    (kk : ∀ (b : Nat) (H1 : Heap), va_P G.1 cls (ws ++ [(b, .inl (G.2.2.1, N, .inl (fun _ => 0)))]) H1 → va_D A (ws ++ [(b, .inl (G.2.2.1, N, .inl (fun _ => 0)))]) → va_S A H0 H1 locs → W p l e R s m args below meth c H1 locs (cells + 1) (slots + N) Q (F0 m (pc + 2) ls (.ref b :: rest))) : W p l e R s m args below meth c H locs cells slots Q (F0 m pc ls (.int v :: rest)) :=
  va_newa (atype := .boolean) (ty := .boolean) hx hb (hts _ wZ) rfl hK.1 hP hD hS hA (a0 := (N, .inl fun _ => 0)) (fun _ => rfl) h0 hv hN hcells hslots hdg (fun b cA H1 hK1 hP1 hD1 hS1 => by have e := cA_Z hK1; subst e; exact kk b H1 hP1 hD1 hS1)
theorem nwF (hx : p.tables.exec = Jvm.exec) (hb : c.code = cc) (hts : ∀ w ∈ lw_u, w.before args s = true) (hown : s.vm.findClass own = some m.cls) (hK : K0 G s) (hP : va_P G.1 cls ws H) (hD : va_D A ws) (hS : va_S A H0 H locs) (hA : ∀ q, H0.size ≤ q → A q) (hlk : Cond.classLink own index RX1 ∈ lw_u) {v : Int32} (N : Nat) (h0 : ¬ v < 0) (hv : v.toNatClampNeg = N) (hN : N * 4 ≤ 536870912) (hcells : cells + 1 ≤ R.cells) (hslots : slots + N ≤ R.slots) (hdg : decode cc pc = .ok (.anewarray index, 3))
    (kk : ∀ (b : Nat) (H1 : Heap), va_P G.1 cls (ws ++ [(b, .inl (G.2.2.2, N, .inr (.inr (.inr (.inr (fun _ => none))))))]) H1 → va_D A (ws ++ [(b, .inl (G.2.2.2, N, .inr (.inr (.inr (.inr (fun _ => none))))))]) → va_S A H0 H1 locs → W p l e R s m args below meth c H1 locs (cells + 1) (slots + N) Q (F0 m (pc + 3) ls (.ref b :: rest))) : W p l e R s m args below meth c H locs cells slots Q (F0 m pc ls (.int v :: rest)) :=
  va_newq hx hb hown (hts _ hlk) hK.2.2 hK.1 hP hD hS hA h0 hv hN hcells hslots hdg (fun b cA H1 hK1 hP1 hD1 hS1 => by have e := cA_F hK1; subst e; exact kk b H1 hP1 hD1 hS1)
theorem vretC {w : va_W} (hx : p.tables.exec = Jvm.exec) (hb : c.code = cc) (hr : meth.sig.returnType = none) (hlocks : meth.locks = false) (hw : P w) (hP : va_P G.1 cls w H) (hD : va_D (va_A w0 s.heap.size) w) (hS : va_S (va_A w0 s.heap.size) s.heap H locs) (hdg : decode cc pc = .ok (.return_, 1)) : W p l e R s m args below meth c H locs cells slots (MQ below (QvC G w0 s.heap.size P) args s cells slots (va_A w0 s.heap.size)) (F0 m pc ls []) :=
  W.vret hx hb hr (fun t ht hW => ⟨⟨(), rfl, trivial, w, hw, by rw [ht]; exact hP, hD⟩, hS.F ht⟩) hS.2.2 hdg hlocks
end CR
