theorem wsL_D {X : En} {A : Nat → Prop} {M : Mem} (h : va_D A (wsL X M)) (M2 : Mem) : va_D A (wsL X M2) := by
  have ea : ∀ (M2 : Mem) (k : Nat) (q : Nat × va_E), (wsL X M2)[k]? = some q → ∃ e0, (wsL X M)[k]? = some (q.1, e0) := by
    intro M2 k q hq
    have hk : k < 71 := by have := (List.getElem?_eq_some_iff.mp hq).1; simpa [wsL] using this
    have e1 := Option.some.inj (hq.symm.trans (wsL_at X M2 hk rfl))
    exact ⟨_, by rw [e1]; exact wsL_at X M hk rfl⟩
  refine ⟨fun i j x z hx hz hxz => ?_, fun k q hq => ?_⟩
  · obtain ⟨e1, h1⟩ := ea M2 i x hx; obtain ⟨e2, h2⟩ := ea M2 j z hz
    exact h.1 i j _ _ h1 h2 hxz
  · obtain ⟨e1, h1⟩ := ea M2 k q hq
    exact h.2 k (q.1, e1) h1
def sims (g : Nat) (J : Mem → Prop) : Prop := sim_type g J ∧ sim_clearText g J ∧ sim_load g J ∧ sim_faultKind g J ∧ sim_clear g J ∧ sim_addPiece g J ∧ sim_extend g J ∧ sim_drop g J ∧ sim_shift g J ∧ sim_pieceAt g J ∧ sim_piece g J ∧ sim_blockers g J ∧ sim_ways g J ∧ sim_contact g J ∧ sim_hangsTogether g J ∧ sim_props g J ∧ sim_standing g J ∧ sim_orders g J ∧ sim_fewestProps g J ∧ sim_planned g J ∧ sim_locked g J ∧ sim_firstGroup g J ∧ sim_put g J ∧ sim_takeOut g J ∧ sim_putAll g J ∧ sim_ifShift g J ∧ sim_undo g J ∧ sim_count g J ∧ sim_digest g J
theorem sims_type {g : Nat} {J : Mem → Prop} (h : sims g J) : sim_type g J := h.1
theorem sims_clearText {g : Nat} {J : Mem → Prop} (h : sims g J) : sim_clearText g J := h.2.1
theorem sims_load {g : Nat} {J : Mem → Prop} (h : sims g J) : sim_load g J := h.2.2.1
theorem sims_faultKind {g : Nat} {J : Mem → Prop} (h : sims g J) : sim_faultKind g J := h.2.2.2.1
theorem sims_clear {g : Nat} {J : Mem → Prop} (h : sims g J) : sim_clear g J := h.2.2.2.2.1
theorem sims_addPiece {g : Nat} {J : Mem → Prop} (h : sims g J) : sim_addPiece g J := h.2.2.2.2.2.1
theorem sims_extend {g : Nat} {J : Mem → Prop} (h : sims g J) : sim_extend g J := h.2.2.2.2.2.2.1
theorem sims_drop {g : Nat} {J : Mem → Prop} (h : sims g J) : sim_drop g J := h.2.2.2.2.2.2.2.1
theorem sims_shift {g : Nat} {J : Mem → Prop} (h : sims g J) : sim_shift g J := h.2.2.2.2.2.2.2.2.1
theorem sims_pieceAt {g : Nat} {J : Mem → Prop} (h : sims g J) : sim_pieceAt g J := h.2.2.2.2.2.2.2.2.2.1
theorem sims_piece {g : Nat} {J : Mem → Prop} (h : sims g J) : sim_piece g J := h.2.2.2.2.2.2.2.2.2.2.1
theorem sims_blockers {g : Nat} {J : Mem → Prop} (h : sims g J) : sim_blockers g J := h.2.2.2.2.2.2.2.2.2.2.2.1
theorem sims_ways {g : Nat} {J : Mem → Prop} (h : sims g J) : sim_ways g J := h.2.2.2.2.2.2.2.2.2.2.2.2.1
theorem sims_contact {g : Nat} {J : Mem → Prop} (h : sims g J) : sim_contact g J := h.2.2.2.2.2.2.2.2.2.2.2.2.2.1
theorem sims_hangsTogether {g : Nat} {J : Mem → Prop} (h : sims g J) : sim_hangsTogether g J := h.2.2.2.2.2.2.2.2.2.2.2.2.2.2.1
theorem sims_props {g : Nat} {J : Mem → Prop} (h : sims g J) : sim_props g J := h.2.2.2.2.2.2.2.2.2.2.2.2.2.2.2.1
theorem sims_standing {g : Nat} {J : Mem → Prop} (h : sims g J) : sim_standing g J := h.2.2.2.2.2.2.2.2.2.2.2.2.2.2.2.2.1
theorem sims_orders {g : Nat} {J : Mem → Prop} (h : sims g J) : sim_orders g J := h.2.2.2.2.2.2.2.2.2.2.2.2.2.2.2.2.2.1
theorem sims_fewestProps {g : Nat} {J : Mem → Prop} (h : sims g J) : sim_fewestProps g J := h.2.2.2.2.2.2.2.2.2.2.2.2.2.2.2.2.2.2.1
theorem sims_planned {g : Nat} {J : Mem → Prop} (h : sims g J) : sim_planned g J := h.2.2.2.2.2.2.2.2.2.2.2.2.2.2.2.2.2.2.2.1
theorem sims_locked {g : Nat} {J : Mem → Prop} (h : sims g J) : sim_locked g J := h.2.2.2.2.2.2.2.2.2.2.2.2.2.2.2.2.2.2.2.2.1
theorem sims_firstGroup {g : Nat} {J : Mem → Prop} (h : sims g J) : sim_firstGroup g J := h.2.2.2.2.2.2.2.2.2.2.2.2.2.2.2.2.2.2.2.2.2.1
theorem sims_put {g : Nat} {J : Mem → Prop} (h : sims g J) : sim_put g J := h.2.2.2.2.2.2.2.2.2.2.2.2.2.2.2.2.2.2.2.2.2.2.1
theorem sims_takeOut {g : Nat} {J : Mem → Prop} (h : sims g J) : sim_takeOut g J := h.2.2.2.2.2.2.2.2.2.2.2.2.2.2.2.2.2.2.2.2.2.2.2.1
theorem sims_putAll {g : Nat} {J : Mem → Prop} (h : sims g J) : sim_putAll g J := h.2.2.2.2.2.2.2.2.2.2.2.2.2.2.2.2.2.2.2.2.2.2.2.2.1
theorem sims_ifShift {g : Nat} {J : Mem → Prop} (h : sims g J) : sim_ifShift g J := h.2.2.2.2.2.2.2.2.2.2.2.2.2.2.2.2.2.2.2.2.2.2.2.2.2.1
theorem sims_undo {g : Nat} {J : Mem → Prop} (h : sims g J) : sim_undo g J := h.2.2.2.2.2.2.2.2.2.2.2.2.2.2.2.2.2.2.2.2.2.2.2.2.2.2.1
theorem sims_count {g : Nat} {J : Mem → Prop} (h : sims g J) : sim_count g J := h.2.2.2.2.2.2.2.2.2.2.2.2.2.2.2.2.2.2.2.2.2.2.2.2.2.2.2.1
theorem sims_digest {g : Nat} {J : Mem → Prop} (h : sims g J) : sim_digest g J := h.2.2.2.2.2.2.2.2.2.2.2.2.2.2.2.2.2.2.2.2.2.2.2.2.2.2.2.2
theorem and31 (x : Int32) : ∃ k : Nat, k < 32 ∧ x &&& 31 = nI k := pk_andE x 5 (by decide)
set_option maxHeartbeats 4000000 in
set_option maxRecDepth 100000 in
theorem law_loop {p : Program} {l : Launch} {e : Env} {s : State} {m : MethodId} {below : List Frame} {meth : Method} {c : Code} {X : En} {b L : Nat} {xs : Nat → Int32} (hL : L ≤ 4096) (C0 : lw_At p s m meth c b L xs) (hXA : ∀ q, X.A q → s.heap.size ≤ q) (hbA : ¬ X.A b) (hZ : Fx p c m s #[Value.ref b] X code 4 RL) {g : Nat} {J : Mem → Prop} (hsim : sims g J) :
    ∀ (n i : Nat), i ≤ L + 8 → L + 8 < i + n → ∀ (M : Mem), J M → ∀ (H : Heap) (locs : List Loc) (ls : Array Slot), wd X M H → va_S X.A s.heap H locs → lv_has ls 4 [(0, .ref b), (1, .ref (X.ad 0)), (2, .ref (X.ad 61)), (3, .int (nI i))] → W p l e room_1 s m #[Value.ref b] below meth c H locs 71 7212 (lw_Z below #[Value.ref b] s) (F0 m 18 ls []) := by
  obtain ⟨hx, hb, hr, hml, hown0, hts0, hX, hbl, hlocks, hgv⟩ := C0
  have hts := hZ.2.2.2.1
  have hk := hZ.2.2.2.2.2
  intro n
  induction n with
  | zero => intro i h1 h2; exact absurd h2 (by omega)
  | succ n ih =>
    intro i hi hin M hJ H locs ls hP hS hl
    refine lv_iload_n hx hb dL_law_18 rfl (lv_at hl 3 rfl) ?_
    refine lv_aload_n hx hb dL_law_19 rfl (lv_at hl 0 rfl) ?_
    refine va_slen hx hb hX hbl hbA hS dL_law_20 ?_
    refine lv_bipush (v := nI 8) hx hb dL_law_21 (by decide) ?_
    refine lv_isub hx hb dL_law_23 ?_
    have hcmp : (Int32.ofNat L - nI 8).toInt = (L : Int) - 8 := by
      show (nI L - nI 8).toInt = _
      rw [pk_sub_toInt (by omega) (by omega)]
      rfl
    have hit : (nI i).toInt = (i : Int) := nI_toInt (by omega)
    refine lv_icmp_gt (tgt := 1046) hx hb dL_law_24 (by decide) (fun c_0 => ?_) (fun c_0 => ?_)
    · refine lv_iconst (v := (1 : Int32)) hx hb dL_law_1046 (by decide) ?_
      refine va_forget (fun q hq => hXA _ (hS.2.2 q hq)) ?_
      refine W.widen (k := 600000) (n := 7302250) (Nat.le_of_ble_eq_true rfl) (Nat.le_of_ble_eq_true rfl) ?_
      exact lw_ret hx hb hr hlocks dL_law_1047
    · have hlt : i + 8 ≤ L := by
        rw [Int32.lt_iff_toInt_lt, hcmp, hit] at c_0
        omega
      have kk : ∀ (M' : Mem), J M' → ∀ (H : Heap) (locs : List Loc) (ls : Array Slot), wd X M' H → va_S X.A s.heap H locs → lv_has ls 4 [(0, .ref b), (1, .ref (X.ad 0)), (2, .ref (X.ad 61)), (3, .int (nI i))] → W p l e room_1 s m #[Value.ref b] below meth c H locs 71 7212 (lw_Z below #[Value.ref b] s) (F0 m 1040 ls []) := by
        intro M' hJ' H locs ls hP hS hl
        refine lv_iinc (v := nI (i + 8)) (lv' := [(3, .int (nI (i + 8))), (0, .ref b), (1, .ref (X.ad 0)), (2, .ref (X.ad 61))]) hx hb dL_law_1040 hl (k := 3) rfl (by rw [← nI_add]; rfl) (by decide) rfl (fun ls hl => ?_)
        refine lv_goto (tgt := 18) hx hb dL_law_1043 (by decide) ?_
        exact ih (i + 8) (by omega) (by omega) M' hJ' H locs ls hP hS (lv_sub hl [1, 2, 3, 0] rfl)
      refine lv_aload_n hx hb dL_law_27 rfl (lv_at hl 0 rfl) ?_
      refine lv_iload_n hx hb dL_law_28 rfl (lv_at hl 3 rfl) ?_
      refine va_sld hx hb hX hbl hbA hS (vp_in_nI (by omega) (by omega)) dL_law_29 ?_
      refine lv_bipush (v := (31 : Int32)) hx hb dL_law_30 (by decide) ?_
      refine lv_iand hx hb dL_law_32 ?_
      obtain ⟨k, hk32, hke⟩ := and31 (xs (nI i).toNatClampNeg)
      rw [hke]
      by_cases hbig : 28 < k
      · refine lv_tableOut (tgt := 1040) hx hb dL_law_33 (Or.inr (by rw [nI_toInt (by omega)]; omega)) (by decide) ?_
        exact kk M hJ H locs ls hP hS hl
      · rcases (show k = 0 ∨ k = 1 ∨ k = 2 ∨ k = 3 ∨ k = 4 ∨ k = 5 ∨ k = 6 ∨ k = 7 ∨ k = 8 ∨ k = 9 ∨ k = 10 ∨ k = 11 ∨ k = 12 ∨ k = 13 ∨ k = 14 ∨ k = 15 ∨ k = 16 ∨ k = 17 ∨ k = 18 ∨ k = 19 ∨ k = 20 ∨ k = 21 ∨ k = 22 ∨ k = 23 ∨ k = 24 ∨ k = 25 ∨ k = 26 ∨ k = 27 ∨ k = 28 by omega) with rfl | rfl | rfl | rfl | rfl | rfl | rfl | rfl | rfl | rfl | rfl | rfl | rfl | rfl | rfl | rfl | rfl | rfl | rfl | rfl | rfl | rfl | rfl | rfl | rfl | rfl | rfl | rfl | rfl
        · refine lv_tableIn (tgt := 164) hx hb dL_law_33 (by decide) (by decide) (by rfl) (by decide) ?_
          obtain ⟨r, M1, M2, h1, h2, h3⟩ := sims_type hsim (xs (nI i + (1 : Int32)).toNatClampNeg) M hJ
          exact lc_type (g := g) hL hX hbl hbA hZ hlt hP hS hl h1 h2 (kk _ h3)
        · refine lv_tableIn (tgt := 187) hx hb dL_law_33 (by decide) (by decide) (by rfl) (by decide) ?_
          obtain ⟨r, M1, M2, h1, h2, h3⟩ := sims_clearText hsim  M hJ
          exact lc_clearText (g := g) hL hX hbl hbA hZ hlt hP hS hl h1 h2 (kk _ h3)
        · refine lv_tableIn (tgt := 200) hx hb dL_law_33 (by decide) (by decide) (by rfl) (by decide) ?_
          obtain ⟨r, M1, M2, h1, h2, h3⟩ := sims_load hsim  M hJ
          exact lc_load (g := g) hL hX hbl hbA hZ hlt hP hS hl h1 h2 (kk _ h3)
        · refine lv_tableIn (tgt := 213) hx hb dL_law_33 (by decide) (by decide) (by rfl) (by decide) ?_
          obtain ⟨r, h1, h2, h3⟩ := sims_faultKind hsim  M hJ
          exact lc_faultKind (g := g) hL hX hbl hbA hZ hlt hP hS hl h1 h2 (kk _ h3)
        · refine lv_tableIn (tgt := 226) hx hb dL_law_33 (by decide) (by decide) (by rfl) (by decide) ?_
          obtain ⟨r, M1, M2, h1, h2, h3⟩ := sims_clear hsim  M hJ
          exact lc_clear (g := g) hL hX hbl hbA hZ hlt hP hS hl h1 h2 (kk _ h3)
        · refine lv_tableIn (tgt := 239) hx hb dL_law_33 (by decide) (by decide) (by rfl) (by decide) ?_
          obtain ⟨r, M1, M2, h1, h2, h3⟩ := sims_addPiece hsim (xs (nI i + (1 : Int32)).toNatClampNeg) (xs (nI i + (2 : Int32)).toNatClampNeg) (xs (nI i + (3 : Int32)).toNatClampNeg) (xs (nI i + (4 : Int32)).toNatClampNeg) (xs (nI i + (5 : Int32)).toNatClampNeg) (xs (nI i + (6 : Int32)).toNatClampNeg) M hJ
          exact lc_addPiece (g := g) hL hX hbl hbA hZ hlt hP hS hl h1 h2 (kk _ h3)
        · refine lv_tableIn (tgt := 314) hx hb dL_law_33 (by decide) (by decide) (by rfl) (by decide) ?_
          obtain ⟨r, M1, M2, h1, h2, h3⟩ := sims_extend hsim (xs (nI i + (1 : Int32)).toNatClampNeg) (xs (nI i + (2 : Int32)).toNatClampNeg) (xs (nI i + (3 : Int32)).toNatClampNeg) (xs (nI i + (4 : Int32)).toNatClampNeg) (xs (nI i + (5 : Int32)).toNatClampNeg) (xs (nI i + (6 : Int32)).toNatClampNeg) (xs (nI i + (7 : Int32)).toNatClampNeg) M hJ
          exact lc_extend (g := g) hL hX hbl hbA hZ hlt hP hS hl h1 h2 (kk _ h3)
        · refine lv_tableIn (tgt := 401) hx hb dL_law_33 (by decide) (by decide) (by rfl) (by decide) ?_
          obtain ⟨r, M1, M2, h1, h2, h3⟩ := sims_drop hsim (xs (nI i + (1 : Int32)).toNatClampNeg) M hJ
          exact lc_drop (g := g) hL hX hbl hbA hZ hlt hP hS hl h1 h2 (kk _ h3)
        · refine lv_tableIn (tgt := 424) hx hb dL_law_33 (by decide) (by decide) (by rfl) (by decide) ?_
          obtain ⟨r, M1, M2, h1, h2, h3⟩ := sims_shift hsim (xs (nI i + (1 : Int32)).toNatClampNeg) (xs (nI i + (2 : Int32)).toNatClampNeg) M hJ
          exact lc_shift (g := g) hL hX hbl hbA hZ hlt hP hS hl h1 h2 (kk _ h3)
        · refine lv_tableIn (tgt := 457) hx hb dL_law_33 (by decide) (by decide) (by rfl) (by decide) ?_
          obtain ⟨r, h1, h2, h3⟩ := sims_pieceAt hsim (xs (nI i + (1 : Int32)).toNatClampNeg) (xs (nI i + (2 : Int32)).toNatClampNeg) (xs (nI i + (3 : Int32)).toNatClampNeg) M hJ
          exact lc_pieceAt (g := g) hL hX hbl hbA hZ hlt hP hS hl h1 h2 (kk _ h3)
        · refine lv_tableIn (tgt := 500) hx hb dL_law_33 (by decide) (by decide) (by rfl) (by decide) ?_
          obtain ⟨r, M1, h1, h2, h3⟩ := sims_piece hsim (xs (nI i + (1 : Int32)).toNatClampNeg) (xs (nI i + (2 : Int32)).toNatClampNeg) M hJ
          exact lc_piece (g := g) hL hX hbl hbA hZ hlt hP hS hl h1 h2 (kk _ h3)
        · refine lv_tableIn (tgt := 533) hx hb dL_law_33 (by decide) (by decide) (by rfl) (by decide) ?_
          obtain ⟨r, M1, h1, h2, h3⟩ := sims_blockers hsim (xs (nI i + (1 : Int32)).toNatClampNeg) (xs (nI i + (2 : Int32)).toNatClampNeg) M hJ
          exact lc_blockers (g := g) hL hX hbl hbA hZ hlt hP hS hl h1 h2 (kk _ h3)
        · refine lv_tableIn (tgt := 566) hx hb dL_law_33 (by decide) (by decide) (by rfl) (by decide) ?_
          obtain ⟨r, M1, h1, h2, h3⟩ := sims_ways hsim (xs (nI i + (1 : Int32)).toNatClampNeg) (xs (nI i + (2 : Int32)).toNatClampNeg) M hJ
          exact lc_ways (g := g) hL hX hbl hbA hZ hlt hP hS hl h1 h2 (kk _ h3)
        · refine lv_tableIn (tgt := 599) hx hb dL_law_33 (by decide) (by decide) (by rfl) (by decide) ?_
          obtain ⟨r, M1, h1, h2, h3⟩ := sims_contact hsim (xs (nI i + (1 : Int32)).toNatClampNeg) (xs (nI i + (2 : Int32)).toNatClampNeg) M hJ
          exact lc_contact (g := g) hL hX hbl hbA hZ hlt hP hS hl h1 h2 (kk _ h3)
        · refine lv_tableIn (tgt := 632) hx hb dL_law_33 (by decide) (by decide) (by rfl) (by decide) ?_
          obtain ⟨r, M1, h1, h2, h3⟩ := sims_hangsTogether hsim (xs (nI i + (1 : Int32)).toNatClampNeg) M hJ
          exact lc_hangsTogether (g := g) hL hX hbl hbA hZ hlt hP hS hl h1 h2 (kk _ h3)
        · refine lv_tableIn (tgt := 655) hx hb dL_law_33 (by decide) (by decide) (by rfl) (by decide) ?_
          obtain ⟨r, M1, h1, h2, h3⟩ := sims_props hsim (xs (nI i + (1 : Int32)).toNatClampNeg) M hJ
          exact lc_props (g := g) hL hX hbl hbA hZ hlt hP hS hl h1 h2 (kk _ h3)
        · refine lv_tableIn (tgt := 678) hx hb dL_law_33 (by decide) (by decide) (by rfl) (by decide) ?_
          obtain ⟨r, M1, h1, h2, h3⟩ := sims_standing hsim (xs (nI i + (1 : Int32)).toNatClampNeg) M hJ
          exact lc_standing (g := g) hL hX hbl hbA hZ hlt hP hS hl h1 h2 (kk _ h3)
        · refine lv_tableIn (tgt := 701) hx hb dL_law_33 (by decide) (by decide) (by rfl) (by decide) ?_
          obtain ⟨r, M1, M2, h1, h2, h3⟩ := sims_orders hsim (xs (nI i + (1 : Int32)).toNatClampNeg) M hJ
          exact lc_orders (g := g) hL hX hbl hbA hZ hlt hP hS hl h1 h2 (kk _ h3)
        · refine lv_tableIn (tgt := 724) hx hb dL_law_33 (by decide) (by decide) (by rfl) (by decide) ?_
          obtain ⟨r, M1, M2, h1, h2, h3⟩ := sims_fewestProps hsim (xs (nI i + (1 : Int32)).toNatClampNeg) M hJ
          exact lc_fewestProps (g := g) hL hX hbl hbA hZ hlt hP hS hl h1 h2 (kk _ h3)
        · refine lv_tableIn (tgt := 747) hx hb dL_law_33 (by decide) (by decide) (by rfl) (by decide) ?_
          by_cases hz : (xs (nI i + (3 : Int32)).toNatClampNeg) = 0
          · obtain ⟨r, M1, M2, h1, h2, h3⟩ := sims_planned hsim (xs (nI i + (1 : Int32)).toNatClampNeg) (xs (nI i + (2 : Int32)).toNatClampNeg) (0 : Int32) M hJ isZ_0
            exact lc_planned_0 (g := g) hL hX hbl hbA hZ hlt hP hS hl hz h1 h2 (kk _ h3)
          · obtain ⟨r, M1, M2, h1, h2, h3⟩ := sims_planned hsim (xs (nI i + (1 : Int32)).toNatClampNeg) (xs (nI i + (2 : Int32)).toNatClampNeg) (1 : Int32) M hJ isZ_1
            exact lc_planned_1 (g := g) hL hX hbl hbA hZ hlt hP hS hl hz h1 h2 (kk _ h3)
        · refine lv_tableIn (tgt := 806) hx hb dL_law_33 (by decide) (by decide) (by rfl) (by decide) ?_
          obtain ⟨r, M1, h1, h2, h3⟩ := sims_locked hsim (xs (nI i + (1 : Int32)).toNatClampNeg) M hJ
          exact lc_locked (g := g) hL hX hbl hbA hZ hlt hP hS hl h1 h2 (kk _ h3)
        · refine lv_tableIn (tgt := 829) hx hb dL_law_33 (by decide) (by decide) (by rfl) (by decide) ?_
          by_cases hz : (xs (nI i + (2 : Int32)).toNatClampNeg) = 0
          · obtain ⟨r, M1, h1, h2, h3⟩ := sims_firstGroup hsim (xs (nI i + (1 : Int32)).toNatClampNeg) (0 : Int32) M hJ isZ_0
            exact lc_firstGroup_0 (g := g) hL hX hbl hbA hZ hlt hP hS hl hz h1 h2 (kk _ h3)
          · obtain ⟨r, M1, h1, h2, h3⟩ := sims_firstGroup hsim (xs (nI i + (1 : Int32)).toNatClampNeg) (1 : Int32) M hJ isZ_1
            exact lc_firstGroup_1 (g := g) hL hX hbl hbA hZ hlt hP hS hl hz h1 h2 (kk _ h3)
        · refine lv_tableIn (tgt := 878) hx hb dL_law_33 (by decide) (by decide) (by rfl) (by decide) ?_
          obtain ⟨r, M1, M2, h1, h2, h3⟩ := sims_put hsim (xs (nI i + (1 : Int32)).toNatClampNeg) (xs (nI i + (2 : Int32)).toNatClampNeg) M hJ
          exact lc_put (g := g) hL hX hbl hbA hZ hlt hP hS hl h1 h2 (kk _ h3)
        · refine lv_tableIn (tgt := 911) hx hb dL_law_33 (by decide) (by decide) (by rfl) (by decide) ?_
          obtain ⟨r, M1, M2, h1, h2, h3⟩ := sims_takeOut hsim (xs (nI i + (1 : Int32)).toNatClampNeg) (xs (nI i + (2 : Int32)).toNatClampNeg) M hJ
          exact lc_takeOut (g := g) hL hX hbl hbA hZ hlt hP hS hl h1 h2 (kk _ h3)
        · refine lv_tableIn (tgt := 944) hx hb dL_law_33 (by decide) (by decide) (by rfl) (by decide) ?_
          obtain ⟨r, M1, M2, h1, h2, h3⟩ := sims_putAll hsim  M hJ
          exact lc_putAll (g := g) hL hX hbl hbA hZ hlt hP hS hl h1 h2 (kk _ h3)
        · refine lv_tableIn (tgt := 957) hx hb dL_law_33 (by decide) (by decide) (by rfl) (by decide) ?_
          obtain ⟨r, M1, M2, h1, h2, h3⟩ := sims_ifShift hsim (xs (nI i + (1 : Int32)).toNatClampNeg) (xs (nI i + (2 : Int32)).toNatClampNeg) M hJ
          exact lc_ifShift (g := g) hL hX hbl hbA hZ hlt hP hS hl h1 h2 (kk _ h3)
        · refine lv_tableIn (tgt := 990) hx hb dL_law_33 (by decide) (by decide) (by rfl) (by decide) ?_
          obtain ⟨r, M1, M2, h1, h2, h3⟩ := sims_undo hsim  M hJ
          exact lc_undo (g := g) hL hX hbl hbA hZ hlt hP hS hl h1 h2 (kk _ h3)
        · refine lv_tableIn (tgt := 1003) hx hb dL_law_33 (by decide) (by decide) (by rfl) (by decide) ?_
          obtain ⟨r, M1, h1, h2, h3⟩ := sims_count hsim (xs (nI i + (1 : Int32)).toNatClampNeg) M hJ
          exact lc_count (g := g) hL hX hbl hbA hZ hlt hP hS hl h1 h2 (kk _ h3)
        · refine lv_tableIn (tgt := 1026) hx hb dL_law_33 (by decide) (by decide) (by rfl) (by decide) ?_
          obtain ⟨r, M1, M2, h1, h2, h3⟩ := sims_digest hsim  M hJ
          exact lc_digest (g := g) hL hX hbl hbA hZ hlt hP hS hl h1 h2 (kk _ h3)
set_option maxHeartbeats 4000000 in
set_option maxRecDepth 100000 in
theorem whole_start0 {p : Program} {e : Env} {s : State} {m : MethodId} {below : List Frame} {meth : Method} {c : Code} (l : Launch) {b L : Nat} {xs : Nat → Int32} (hL : L ≤ 4096) (C0 : lw_At p s m meth c b L xs) {g : Nat} {J : Mem → Prop} (hsim : sims g J) {M1 : Mem} (hlay : fn_X8_lays g M0 = some M1) (hJ : J M1) : W p l e room_1 s m #[Value.ref b] below meth c s.heap [] 0 0 (lw_Z below #[Value.ref b] s) (entryFrame m ([Value.ref b] : List Value).toArray 4) := by
  obtain ⟨hx, hb, hr, hml, hown, hts0, hX, hbl, hlocks, hgv⟩ := id C0
  have hts : ∀ w ∈ lw_u, w.before #[Value.ref b] s = true := fun w hw => hts0 w (lw_in hw)
  have hown : s.vm.findClass RL = some m.cls := hown
  obtain ⟨c0, iS0, hKn0⟩ := u_known (C := RX0) (T := TX0) (N := 1) (n := 1) hts innX0 (hts _ wd_1_178)
  obtain ⟨c1, iS1, hKn1⟩ := u_known (C := RX1) (T := TX1) (N := 5) (n := 5) hts innX1 (hts _ wd_1_22)
  obtain ⟨c2, iS2, hKn2⟩ := u_known (C := RX2) (T := TX2) (N := 3) (n := 3) hts innX2 (hts _ wd_1_152)
  obtain ⟨c3, iS3, hKn3⟩ := u_known (C := RX3) (T := TX3) (N := 5) (n := 5) hts innX3 (hts _ wd_1_58)
  obtain ⟨c4, iS4, hKn4⟩ := u_known (C := RX4) (T := TX4) (N := 9) (n := 9) hts innX4 (hts _ wd_1_112)
  obtain ⟨c5, iS5, hKn5⟩ := u_known (C := RX5) (T := TX5) (N := 6) (n := 6) hts innX5 (hts _ wd_1_85)
  obtain ⟨c6, iS6, hKn6⟩ := u_known (C := RX6) (T := TX6) (N := 7) (n := 7) hts innX6 (hts _ wd_1_172)
  obtain ⟨c7, iS7, hKn7⟩ := u_known (C := RX7) (T := TX7) (N := 12) (n := 12) hts innX7 (hts _ wd_1_14)
  obtain ⟨c8, iS8, hKn8⟩ := u_known (C := RX8) (T := TX8) (N := 14) (n := 14) hts innX8 (hts _ wd_3_166)
  obtain ⟨D, hKc⟩ : ∃ (D : va_G), ∀ (k : Nat) (q : vw_C), cls[k]? = some q → u_Kn s q.1 q.2.1 q.2.2 (D.1 k) (D.2 k) := by
    refine ⟨(fun k => if k = 0 then c0 else if k = 1 then c1 else if k = 2 then c2 else if k = 3 then c3 else if k = 4 then c4 else if k = 5 then c5 else if k = 6 then c6 else if k = 7 then c7 else c8, fun k => if k = 0 then iS0 else if k = 1 then iS1 else if k = 2 then iS2 else if k = 3 then iS3 else if k = 4 then iS4 else if k = 5 then iS5 else if k = 6 then iS6 else if k = 7 then iS7 else iS8), ?_⟩
    intro k q hq
    match k, hq with
    | 0, hq => cases hq; exact hKn0
    | 1, hq => cases hq; exact hKn1
    | 2, hq => cases hq; exact hKn2
    | 3, hq => cases hq; exact hKn3
    | 4, hq => cases hq; exact hKn4
    | 5, hq => cases hq; exact hKn5
    | 6, hq => cases hq; exact hKn6
    | 7, hq => cases hq; exact hKn7
    | 8, hq => cases hq; exact hKn8
    | k + 9, hq => simp [cls] at hq
  obtain ⟨cI, kI0, compI, hfI, hkI, hkindI⟩ := Cond.arrayClass_spec (hts _ wd_1_56)
  obtain ⟨cZ, kZ0, compZ, hfZ, hkZ, hkindZ⟩ := Cond.arrayClass_spec (hts _ wZ)
  obtain ⟨compF, cF, kF0, hF1, hF2, hkF, hkindF, hfF⟩ := Cond.arrayOver_spec (hts0 _ wd_1_158)
  obtain ⟨G, hG⟩ : ∃ G : E3, G = (D, cI, cZ, cF) := ⟨_, rfl⟩
  have hK : K0 G s := by
    subst hG
    refine ⟨⟨hKc, fun k q h => ?_⟩, nest_of hts0, va_AO.of (hts0 _ wd_1_158)⟩
    match k, h with
    | 0, h => cases h; exact ⟨fun n z => ⟨fun k h => (by cases h), kI0, hkI, compI, hkindI⟩, hfI⟩
    | 1, h => cases h; exact ⟨fun n z => ⟨fun k h => (by cases h), kZ0, hkZ, compZ, hkindZ⟩, hfZ⟩
    | 2, h => cases h; exact ⟨fun n z => ⟨fun k h => (by cases h), kF0, hkF, compF, hkindF⟩, kF0, compF, hkF, hkindF, hF1, hfF⟩
    | k + 3, h => simp at h
  have hA : ∀ q : Nat, s.heap.size ≤ q → (fun q : Nat => s.heap.size ≤ q) q := fun _ h => h
  have hbA : ¬ (fun q : Nat => s.heap.size ≤ q) b := Nat.not_le.mpr hbl
  have hS : va_S (fun q : Nat => s.heap.size ≤ q) s.heap s.heap [] := va_S.rf
  have hP : va_P G.1 cls [] s.heap := fun k q h => by simp at h
  have hD : va_D (fun q : Nat => s.heap.size ≤ q) [] := ⟨fun i j p q h => by simp at h, fun k q h => by simp at h⟩
  have hl := lv_entry ([.ref b]) (n := 4) (Nat.le_of_ble_eq_true rfl)
  rw [lg_entry_eq]
  generalize (lg_sl ([.ref b]) ++ List.replicate (4 - (lg_sl ([.ref b])).length) Slot.unset).toArray = ls at hl ⊢
  have hl : lv_has ls 4 [(0, .ref b)] := hl
  refine va_new (ci := 7) (fs := [.null, .null, .null, .null, .null, .null, .null, .null, .null, .int 0, .int 0, .int 0]) (C := RX7) (T := TX7) (N := 12) hx hb hts innX7 tyX7 tyX7_ok hown (hts _ wd_1_13) (hts _ wd_1_14) (hts _ wd_1_1) hK.1 hP hD hS hA rfl (fun j hj => by rcases (show j = 0 ∨ j = 1 ∨ j = 2 ∨ j = 3 ∨ j = 4 ∨ j = 5 ∨ j = 6 ∨ j = 7 ∨ j = 8 ∨ j = 9 ∨ j = 10 ∨ j = 11 by omega) with rfl | rfl | rfl | rfl | rfl | rfl | rfl | rfl | rfl | rfl | rfl | rfl <;> rfl) (Nat.le_of_ble_eq_true rfl) (Nat.le_of_ble_eq_true rfl) dL_law_0 (fun q0v H hP hD hS => ?_)
  have hP : va_P G.1 cls (([] : va_W) ++ [(q0v, .inr (7, [.null, .null, .null, .null, .null, .null, .null, .null, .null, .int 0, .int 0, .int 0]))]) H := hP
  have hD : va_D (fun q : Nat => s.heap.size ≤ q) (([] : va_W) ++ [(q0v, .inr (7, [.null, .null, .null, .null, .null, .null, .null, .null, .null, .int 0, .int 0, .int 0]))]) := hD
  refine lv_dup hx hb dL_law_3 rfl ?_
  refine kI (As := []) (rest := [.ref q0v]) hx hb hml hts hown hK hP hD hS hA (i_X7 q0v H.size) wd_1_17 wd_1_16 wd_1_1 hd_X7_init rfl rfl wd_1_15 ⟨(Nat.le_of_ble_eq_true rfl), (Nat.le_of_ble_eq_true rfl)⟩ hl.1 rfl (Nat.le_of_ble_eq_true rfl) dL_law_4 ⟨(Nat.le_of_ble_eq_true rfl), (Nat.le_of_ble_eq_true rfl)⟩ (fun w H locs hw hP hD hS => ?_)
  obtain ⟨b1, b2, b3, b4, b5, b6, b7, b8, b9, b10, b11, b12, b13, b14, b15, b16, b17, b18, b19, b20, b21, b22, b23, b24, b25, b26, b27, b28, b29, b30, b31, b32, b33, b34, b35, b36, b37, b38, b39, b40, b41, b42, b43, b44, b45, b46, b47, b48, b49, b50, b51, b52, b53, b54, b55, b56, b57, b58, b59, b60, rfl⟩ := hw
  obtain ⟨ad, had0, hP, hD⟩ := cw_of hP hD
  refine lv_astore_n (lv' := [(1, .ref q0v), (0, .ref b)]) hx hb dL_law_7 rfl hl (by decide) rfl (fun ls hl => ?_)
  refine va_new (ci := 8) (fs := [.null, .int 0, .null, .null, .null, .null, .null, .null, .null, .int 0, .int 0, .int 0, .null, .long 0]) (C := RX8) (T := TX8) (N := 14) hx hb hts innX8 tyX8 tyX8_ok hown (hts _ wd_3_165) (hts _ wd_3_166) (hts _ wd_1_9) hK.1 hP hD hS hA rfl (fun j hj => by rcases (show j = 0 ∨ j = 1 ∨ j = 2 ∨ j = 3 ∨ j = 4 ∨ j = 5 ∨ j = 6 ∨ j = 7 ∨ j = 8 ∨ j = 9 ∨ j = 10 ∨ j = 11 ∨ j = 12 ∨ j = 13 by omega) with rfl | rfl | rfl | rfl | rfl | rfl | rfl | rfl | rfl | rfl | rfl | rfl | rfl | rfl <;> rfl) (Nat.le_of_ble_eq_true rfl) (Nat.le_of_ble_eq_true rfl) dL_law_8 (fun q8v H hP hD hS => ?_)
  have hP : va_P G.1 cls (([] : va_W) ++ ((q8v, .inr (8, [.null, .int 0, .null, .null, .null, .null, .null, .null, .null, .int 0, .int 0, .int 0, .null, .long 0])) :: cwL G ad)) H := by
    intro k x hx1
    cases k with
    | zero => cases hx1; exact hP _ _ (app_r (X := cwL G ad) (k := 0) rfl)
    | succ k => exact hP _ _ (app_l hx1)
  have hD : va_D (fun q : Nat => s.heap.size ≤ q) (([] : va_W) ++ ((q8v, .inr (8, [.null, .int 0, .null, .null, .null, .null, .null, .null, .null, .int 0, .int 0, .int 0, .null, .long 0])) :: cwL G ad)) := by
    have hpl : ∀ (k : Nat) (x : Nat × va_E), ((q8v, .inr (8, [.null, .int 0, .null, .null, .null, .null, .null, .null, .null, .int 0, .int 0, .int 0, .null, .long 0])) :: cwL G ad)[k]? = some x → ∃ pl, (cwL G ad ++ [(q8v, .inr (8, [.null, .int 0, .null, .null, .null, .null, .null, .null, .null, .int 0, .int 0, .int 0, .null, .long 0]))])[pl]? = some x ∧ pl = (if k = 0 then 61 else k - 1) ∧ k < 62 := by
      intro k x hx1
      have hlen := cwL_len G ad
      cases k with
      | zero => cases hx1; refine ⟨61, ?_, rfl, by omega⟩; have h := app_r (X := cwL G ad) (Y := [(q8v, .inr (8, [.null, .int 0, .null, .null, .null, .null, .null, .null, .null, .int 0, .int 0, .int 0, .null, .long 0]))]) (k := 0) rfl; rw [hlen] at h; exact h
      | succ k => rw [List.getElem?_cons_succ] at hx1; have hk := (List.getElem?_eq_some_iff.mp hx1).1; exact ⟨k, app_l hx1, by simp, by omega⟩
    refine ⟨fun i j x z hx1 hz1 hxz => ?_, fun k x hx1 => ?_⟩
    · obtain ⟨p1, h1, e1, g1⟩ := hpl i x hx1; obtain ⟨p2, h2, e2, g2⟩ := hpl j z hz1
      have hpp := hD.1 p1 p2 x z h1 h2 hxz
      rw [e1, e2] at hpp
      by_cases c1 : i = 0 <;> by_cases c2 : j = 0
      · omega
      · rw [if_pos c1, if_neg c2] at hpp; omega
      · rw [if_neg c1, if_pos c2] at hpp; omega
      · rw [if_neg c1, if_neg c2] at hpp; omega
    · obtain ⟨p1, h1, e1, g1⟩ := hpl k x hx1; exact hD.2 p1 x h1
  refine lv_dup hx hb dL_law_11 rfl ?_
  refine ctor_go (pre := []) (va_runI (Ts := lw_u) (As := []) (rest := [.ref q8v]) ⟨hx, hb, hml, hown, hts⟩ (i_X8 ad g M1 hlay q8v H.size) ⟨callB_of 0 hts (gdl wd_3_169) rfl rfl rfl (hts _ wd_1_9) (hts _ wd_3_167) hd_X8_init ⟨(Nat.le_of_ble_eq_true rfl), (Nat.le_of_ble_eq_true rfl)⟩, rfl, hts _ wd_3_168⟩ (pwC hK hP hD) rfl rfl hl.1 rfl (lv_room (Nat.le_of_ble_eq_true rfl)) dL_law_12 ⟨(Nat.le_of_ble_eq_true rfl), (Nat.le_of_ble_eq_true rfl)⟩) hP hD hS hA (fun w H locs hw hP hD hS => ?_)
  obtain ⟨ad2, hlo, had61, rfl⟩ := hw
  have hX0 : ad2 0 = q0v := (hlo 0 (by decide)).trans had0
  obtain ⟨X, hXe⟩ : ∃ X : En, X = mkX G ad2 (fun q : Nat => s.heap.size ≤ q) := ⟨_, rfl⟩
  have hP : wd X M1 H := by rw [hXe]; exact hP
  have hDD : ∀ M : Mem, va_D X.A (wsL X M) := by
    intro M
    rw [hXe]
    have hD1 : va_D (fun q : Nat => s.heap.size ≤ q) (wsL (mkX G ad2 (fun q : Nat => s.heap.size ≤ q)) M1) := hD
    exact wsL_D hD1 M
  have hk : kn X s := by rw [hXe] at hDD ⊢; exact ⟨hK.1, hK.2.1, hDD⟩
  have hZ : Fx p c m s #[Value.ref b] X code 4 RL := ⟨hx, hb, hml, hts, hown, hk⟩
  have hXad : X.ad 0 = q0v ∧ X.ad 61 = q8v := by rw [hXe]; exact ⟨hX0, had61⟩
  have hXA : ∀ q, X.A q → s.heap.size ≤ q := by rw [hXe]; exact fun q h => h
  have hXb : ¬ X.A b := by rw [hXe]; exact hbA
  have hS : va_S X.A s.heap H locs := by rw [hXe]; exact hS
  refine W.widen (k := 71) (n := 7212) (Nat.le_of_ble_eq_true rfl) (Nat.le_of_ble_eq_true rfl) ?_
  refine lv_astore_n (lv' := [(2, .ref q8v), (1, .ref q0v), (0, .ref b)]) hx hb dL_law_15 rfl hl (by decide) rfl (fun ls hl => ?_)
  refine lv_iconst (v := (0 : Int32)) hx hb dL_law_16 (by decide) ?_
  refine lv_istore_n (lv' := [(3, .int (nI 0)), (2, .ref q8v), (1, .ref q0v), (0, .ref b)]) hx hb dL_law_17 rfl hl (by decide) rfl (fun ls hl => ?_)
  rw [← hXad.1, ← hXad.2] at hl
  exact law_loop hL C0 hXA hXb hZ hsim (L + 9) 0 (by omega) (by omega) M1 hJ H locs ls hP hS (lv_sub hl [3, 2, 1, 0] rfl)
