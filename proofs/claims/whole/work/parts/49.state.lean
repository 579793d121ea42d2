/-! ===== the state of both: frame, history, text ===== -/
/-- pieces, built, steps, boxes, owners (0: none) -/
abbrev FR : Type := Nat × Nat × Int32 × (Nat → Nat) × (Nat → Nat)
abbrev FR.n (F : FR) : Nat := F.1
abbrev FR.b (F : FR) : Nat := F.2.1
abbrev FR.s (F : FR) : Int32 := F.2.2.1
abbrev FR.x (F : FR) : Nat → Nat := F.2.2.2.1
abbrev FR.o (F : FR) : Nat → Nat := F.2.2.2.2
def okF (F : FR) : Prop := F.n ≤ 8 ∧ F.b < 2 ^ F.n ∧ (∀ j, j < 8 → F.x j ≤ 4 ∧ (F.n ≤ j → F.x j = 0)) ∧ (∀ c, c < 216 → F.o c ≤ F.n) ∧ (∀ p, p < F.n → ∃ c, c < 216 ∧ F.o c = p + 1)
def fC (M : Mem) (k : Nat) (F : FR) : Prop := M k 2 = nI F.n ∧ M k 3 = nI F.b ∧ M k 4 = F.s ∧ (∀ j, j < 8 → M (k + 2) j = nI (F.x j)) ∧ hO M k F.o
def pg (F : FR) (k : Nat) : Int32 := if k = 0 then nI F.n else if k = 1 then nI F.b else if k = 2 then F.s else if k < 11 then nI (F.x (k - 3)) else nI (F.o (k - 11))
def fM (M : Mem) (p : Nat) (F : FR) : Prop := ∀ k, k < 227 → M 62 (227 * p + k) = pg F k
theorem okF_o {F : FR} (h : okF F) : ∀ c, c < 216 → F.o c ≤ 8 := fun c hc => Nat.le_trans (h.2.2.2.1 c hc) h.1
theorem okF_b {F : FR} (h : okF F) : F.b < 256 := lt256 h.2.1 h.1
theorem pg_x (F : FR) {j : Nat} (h : j < 8) : pg F (3 + j) = nI (F.x j) := by
  unfold pg
  rw [if_neg (by omega), if_neg (by omega), if_neg (by omega), if_pos (by omega), show 3 + j - 3 = j by omega]
theorem pg_o (F : FR) (c : Nat) : pg F (11 + c) = nI (F.o c) := by
  unfold pg
  rw [if_neg (by omega), if_neg (by omega), if_neg (by omega), if_neg (by omega), show 11 + c - 11 = c by omega]
theorem fM_n {M : Mem} {F : FR} (h : fM M 0 F) : M 62 0 = nI F.n := h 0 (by omega)
theorem fM_b {M : Mem} {F : FR} (h : fM M 0 F) : M 62 1 = nI F.b := h 1 (by omega)
theorem fM_s {M : Mem} {F : FR} (h : fM M 0 F) : M 62 2 = F.s := h 2 (by omega)
theorem fM_x {M : Mem} {F : FR} (h : fM M 0 F) {j : Nat} (hj : j < 8) : M 62 (3 + j) = nI (F.x j) := by
  have := h (3 + j) (by omega)
  rwa [Nat.mul_zero, Nat.zero_add, pg_x F hj] at this
theorem fM_o {M : Mem} {F : FR} (h : fM M 0 F) : hP M F.o := by
  intro c hc
  have := h (11 + c) (by omega)
  rwa [Nat.mul_zero, Nat.zero_add, pg_o F c] at this
theorem fM_mk {M : Mem} {F : FR} (h0 : M 62 0 = nI F.n) (h1 : M 62 1 = nI F.b) (h2 : M 62 2 = F.s) (h3 : ∀ j, j < 8 → M 62 (3 + j) = nI (F.x j)) (h4 : hP M F.o) : fM M 0 F := by
  intro k hk
  rw [Nat.mul_zero, Nat.zero_add]
  by_cases c0 : k = 0
  · subst c0; exact h0
  by_cases c1 : k = 1
  · subst c1; exact h1
  by_cases c2 : k = 2
  · subst c2; exact h2
  by_cases c3 : k < 11
  · obtain ⟨j, rfl⟩ : ∃ j, k = 3 + j := ⟨k - 3, by omega⟩
    rw [pg_x F (by omega)]; exact h3 j (by omega)
  · obtain ⟨j, rfl⟩ : ∃ j, k = 11 + j := ⟨k - 11, by omega⟩
    rw [pg_o]; exact h4 j (by omega)
theorem fM_eq {M M' : Mem} {p : Nat} {F : FR} (h : fM M p F) (e : M' 62 = M 62) : fM M' p F := fun k hk => by rw [e]; exact h k hk
theorem fC_eq {M M' : Mem} {k : Nat} {F : FR} (h : fC M k F) (e0 : M' k = M k) (e1 : M' (k + 1) = M (k + 1)) (e2 : M' (k + 2) = M (k + 2)) : fC M' k F := by
  unfold fC hO at *
  rw [e0, e1, e2]
  exact h
/-- frame, how many remembered, which (the oldest is number 0), text's length, text, fault -/
abbrev ST : Type := FR × Nat × (Nat → FR) × Nat × (Nat → Nat) × Int32
abbrev ST.F (S : ST) : FR := S.1
abbrev ST.h (S : ST) : Nat := S.2.1
abbrev ST.hs (S : ST) : Nat → FR := S.2.2.1
abbrev ST.tl (S : ST) : Nat := S.2.2.2.1
abbrev ST.tx (S : ST) : Nat → Nat := S.2.2.2.2.1
abbrev ST.fk (S : ST) : Int32 := S.2.2.2.2.2
def okS (S : ST) : Prop := okF S.F ∧ S.h ≤ 8 ∧ (∀ t, t < S.h → okF (S.hs t)) ∧ S.tl ≤ 80 ∧ (∀ j, j < S.tl → 32 ≤ S.tx j ∧ S.tx j ≤ 126)
def ring (M : Mem) (h : Nat) (hs : Nat → FR) : Prop := ∃ od, od < 8 ∧ M 21 0 = nI h ∧ M 21 2 = nI od ∧ ∀ t, t < h → fC M (23 + 3 * ((od + t) % 8)) (hs t)
def hiE (M M' : Mem) : Prop := ∀ a, 61 ≤ a → M' a = M a
def loE (M M' : Mem) : Prop := ∀ a, a < 61 → M' a = M a
theorem hiE_of {L : List Nat} {M M' : Mem} (h : eqx L M M') (hL : ∀ a, a ∈ L → a < 61) : hiE M M' := fun a ha => h a (fun q => by have := hL a q; omega)
theorem loE_of {L : List Nat} {M M' : Mem} (h : eqx L M M') (hL : ∀ a, a ∈ L → 61 ≤ a) : loE M M' := fun a ha => h a (fun q => by have := hL a q; omega)
theorem hiE_rf (M : Mem) : hiE M M := fun _ _ => rfl
theorem loE_rf (M : Mem) : loE M M := fun _ _ => rfl
theorem hiE_tr {M M1 M2 : Mem} (h : hiE M M1) (h2 : hiE M1 M2) : hiE M M2 := fun a ha => (h2 a ha).trans (h a ha)
theorem loE_tr {M M1 M2 : Mem} (h : loE M M1) (h2 : loE M1 M2) : loE M M2 := fun a ha => (h2 a ha).trans (h a ha)
theorem cpy0 {f g : Nat → Int32} {n j : Nat} (h : j < n) : va_cpy f g 0 0 n j = f j := by
  rw [pk_cpy_in (by omega) (by omega), Nat.sub_zero, Nat.zero_add]
/-! the class's frames -/
theorem c_copy {M : Mem} {k0 k1 : Nat} {F : FR} (hk : k1 + 3 ≤ k0 ∨ k0 + 3 ≤ k1) (h : fC M k1 F) : ∃ M', fn_X1_copyFrom k0 k1 M = some M' ∧ eqx [k0, k0 + 1, k0 + 2] M M' ∧ fC M' k0 F := by
  unfold fn_X1_copyFrom
  simp only [bv]
  obtain ⟨h1, h2, h3, h4, h5⟩ := h
  refine ⟨_, rfl, ?_, ?_, ?_, ?_, ?_, ?_⟩
  · refine eqx_st (eqx_st (eqx_st ?_ (by simp) _ _) (by simp) _ _) (by simp) _ _
    intro a ha
    simp only [List.mem_cons, List.not_mem_nil, or_false, not_or] at ha
    unfold scp
    rw [stf_ne _ _ ha.2.2, stf_ne _ _ ha.2.1]
  · simp only [scp]
    rw [st_at, upd_ne _ _ (by decide), st_at, upd_ne _ _ (by decide), st_at, upd_at, stf_ne _ _ (by omega), stf_ne _ _ (by omega)]
    exact h1
  · simp only [scp]
    rw [st_at, upd_ne _ _ (by decide), st_at, upd_at, st_ne _ _ _ (by omega), stf_ne _ _ (by omega), stf_ne _ _ (by omega)]
    exact h2
  · simp only [scp]
    rw [st_at, upd_at, st_ne _ _ _ (by omega), st_ne _ _ _ (by omega), stf_ne _ _ (by omega), stf_ne _ _ (by omega)]
    exact h3
  · intro j hj
    simp only [scp]
    rw [st_ne _ _ _ (by omega), st_ne _ _ _ (by omega), st_ne _ _ _ (by omega), stf_at, cpy0 hj, stf_ne _ _ (by omega)]
    exact h4 j hj
  · intro c hc
    simp only [scp]
    rw [st_ne _ _ _ (by omega), st_ne _ _ _ (by omega), st_ne _ _ _ (by omega), stf_ne _ _ (by omega), stf_at, cpy0 hc]
    exact h5 c hc
def fZ : FR := (0, 0, 0, fun _ => 0, fun _ => 0)
theorem okF_Z : okF fZ := ⟨by decide, by decide, fun j _ => ⟨by show 0 ≤ 4; decide, fun _ => rfl⟩, fun c _ => Nat.le_refl 0, fun p hp => by have : p < 0 := hp; omega⟩
theorem c_empty {M : Mem} {k g : Nat} (hg : 5000 < g) : ∃ M', fn_X1_empty g k M = some M' ∧ eqx [k, k + 1, k + 2] M M' ∧ fC M' k fZ := by
  unfold fn_X1_empty
  have r1 : lpN g (bd_X1_empty_2 k) ((0 : Int32), M) = some (stf M (k + 1) (fa_fill (fun _ => -1) (M (k + 1)) 216)) := by
    refine lp_fill _ (by omega) M ?_ ?_
    · intro i f hi
      simp only [bd_X1_empty_2, u2]
      rw [if_neg (show ¬ (216 : Int32) ≤ nI i from nI_ge (b := 216) hi (by decide)), if_pos (inb_nI hi (by omega)), ix_nI (by omega), inc]
      rfl
    · intro f
      simp only [bd_X1_empty_2, u2]
      rw [if_pos (by decide)]
  rw [r1]
  simp only [Option.bind_some, u1]
  obtain ⟨M1, hM1⟩ : ∃ z, z = stf M (k + 1) (fa_fill (fun _ => -1) (M (k + 1)) 216) := ⟨_, rfl⟩
  rw [← hM1]
  have r2 : lpN g (bd_X1_empty_24 k) ((0 : Int32), M1) = some (stf M1 (k + 2) (fa_fill (fun _ => 0) (M1 (k + 2)) 8)) := by
    refine lp_fill _ (by omega) M1 ?_ ?_
    · intro i f hi
      simp only [bd_X1_empty_24, u2]
      rw [if_neg (show ¬ (8 : Int32) ≤ nI i from nI_ge (b := 8) hi (by decide)), if_pos (inb_nI hi (by omega)), ix_nI (by omega), inc]
      rfl
    · intro f
      simp only [bd_X1_empty_24, u2]
      rw [if_pos (by decide)]
  rw [r2]
  simp only [Option.bind_some, u1, bv]
  refine ⟨_, rfl, ?_, ?_, ?_, ?_, ?_, ?_⟩
  · refine eqx_st (eqx_st (eqx_st ?_ (by simp) _ _) (by simp) _ _) (by simp) _ _
    intro a ha
    simp only [List.mem_cons, List.not_mem_nil, or_false, not_or] at ha
    rw [stf_ne _ _ ha.2.2, hM1, stf_ne _ _ ha.2.1]
  · rw [st_at, upd_ne _ _ (by decide), st_at, upd_ne _ _ (by decide), st_at, upd_at]; rfl
  · rw [st_at, upd_ne _ _ (by decide), st_at, upd_at]; rfl
  · rw [st_at, upd_at]; rfl
  · intro j hj
    rw [st_ne _ _ _ (by omega), st_ne _ _ _ (by omega), st_ne _ _ _ (by omega), stf_at, fa_fill_in hj]; rfl
  · intro c hc
    rw [st_ne _ _ _ (by omega), st_ne _ _ _ (by omega), st_ne _ _ _ (by omega), stf_ne _ _ (by omega), hM1, stf_at, fa_fill_in hc]; rfl
def rcH (h : Nat) : Nat := if h < 8 then h + 1 else 8
def rcS (h : Nat) (hs : Nat → FR) (F : FR) (t : Nat) : FR := if h < 8 then (if t = h then F else hs t) else (if t = 7 then F else hs (t + 1))
def LR : List Nat := [21, 23, 24, 25, 26, 27, 28, 29, 30, 31, 32, 33, 34, 35, 36, 37, 38, 39, 40, 41, 42, 43, 44, 45, 46]
theorem LR_in {j a : Nat} (hj : j < 8) (ha : a ∈ [23 + 3 * j, 23 + 3 * j + 1, 23 + 3 * j + 2]) : a ∈ LR := by
  simp only [List.mem_cons, List.not_mem_nil, or_false] at ha
  have : 23 ≤ a ∧ a ≤ 46 := by omega
  simp only [LR, List.mem_cons, List.not_mem_nil, or_false]
  omega
theorem c_record {M : Mem} {h : Nat} {hs : Nat → FR} {F : FR} (hh : h ≤ 8) (hr : ring M h hs) (hF : fC M 1 F) : ∃ M', fn_X2_remember 1 M = some M' ∧ eqx LR M M' ∧ ring M' (rcH h) (rcS h hs F) := by
  obtain ⟨od, o1, o2, o3, o4⟩ := hr
  unfold fn_X2_remember
  have e : rm (nI od + nI h) (8 : Int32) = nI ((od + h) % 8) := by
    rw [nI_add]; exact rm_nI (d := 8) (by omega) (by decide) (by decide)
  have hm : (od + h) % 8 < 8 := Nat.mod_lt _ (by decide)
  rw [o2, o3, e, if_pos (inb_nI hm (by decide)), ix_nI (by omega)]
  obtain ⟨M1, a1, a2, a3⟩ := c_copy (k0 := 23 + 3 * ((od + h) % 8)) (by omega) hF
  rw [a1]
  simp only [Option.bind_some]
  have hb : ∀ x, (x < 23 ∨ 46 < x) → M1 x = M x := fun x hx => a2 x (by simp; omega)
  have old : ∀ j G, j < 8 → j ≠ (od + h) % 8 → fC M (23 + 3 * j) G → fC M1 (23 + 3 * j) G := by
    intro j G hj hne hG
    exact fC_eq hG (a2 _ (by simp; omega)) (a2 _ (by simp; omega)) (a2 _ (by simp; omega))
  have e21 : M1 21 = M 21 := hb 21 (by omega)
  rw [e21, o2, o3]
  have key : ∀ (N : Mem), (∀ x, x ≠ 21 → N x = M1 x) → (∀ j G, fC M1 (23 + 3 * j) G → fC N (23 + 3 * j) G) := by
    intro N hN j G hG
    exact fC_eq hG (hN _ (by omega)) (hN _ (by omega)) (hN _ (by omega))
  by_cases c : 8 ≤ h
  · have h8 : h = 8 := by omega
    subst h8
    rw [if_pos (show (8 : Int32) ≤ nI 8 by decide)]
    simp only [bv]
    refine ⟨_, rfl, eqx_st (eqx_mono a2 (fun a ha => LR_in hm ha)) (by decide) _ _, (od + 1) % 8, Nat.mod_lt _ (by decide), ?_, ?_, ?_⟩
    · rw [st_at, upd_ne _ _ (by decide), e21, o2]; rfl
    · rw [st_at, upd_at, inc]
      exact rm_nI (d := 8) (by omega) (by decide) (by decide)
    · intro t ht
      have ht : t < 8 := ht
      refine key _ (fun x hx => st_ne _ _ _ hx) _ _ ?_
      unfold rcS
      rw [if_neg (by omega)]
      by_cases q : t = 7
      · rw [if_pos q, show ((od + 1) % 8 + t) % 8 = (od + 8) % 8 by omega]; exact a3
      · rw [if_neg q, show ((od + 1) % 8 + t) % 8 = (od + (t + 1)) % 8 by omega]
        exact old _ _ (Nat.mod_lt _ (by decide)) (by omega) (o4 (t + 1) (by omega))
  · rw [if_neg (show ¬ (8 : Int32) ≤ nI h from fun q => c ((nI_leI (a := 8) (by decide) (by omega)).mp q))]
    simp only [bv]
    refine ⟨_, rfl, eqx_st (eqx_mono a2 (fun a ha => LR_in hm ha)) (by decide) _ _, od, o1, ?_, ?_, ?_⟩
    · rw [st_at, upd_at, inc]
      unfold rcH
      rw [if_pos (by omega)]
    · rw [st_at, upd_ne _ _ (by decide), e21, o3]
    · intro t ht
      have ht : t < h + 1 := by unfold rcH at ht; rw [if_pos (by omega)] at ht; exact ht
      refine key _ (fun x hx => st_ne _ _ _ hx) _ _ ?_
      unfold rcS
      rw [if_pos (by omega)]
      by_cases q : t = h
      · rw [if_pos q, q]; exact a3
      · rw [if_neg q]
        exact old _ _ (Nat.mod_lt _ (by decide)) (by omega) (o4 t (by omega))
theorem c_restore {M : Mem} {h : Nat} {hs : Nat → FR} (h0 : 0 < h) (hh : h ≤ 8) (hr : ring M h hs) : ∃ M', fn_X2_restore 1 M = some M' ∧ eqx [1, 2, 3, 21] M M' ∧ ring M' (h - 1) hs ∧ fC M' 1 (hs (h - 1)) := by
  obtain ⟨od, o1, o2, o3, o4⟩ := hr
  unfold fn_X2_restore
  rw [o2, if_neg (nI_nle h0 (by omega)), show nI h - 1 = nI (h - 1) from nI_sub (b := 1) h0]
  simp only [bv]
  obtain ⟨M1, hM1⟩ : ∃ z, z = st M 21 0 (nI (h - 1)) := ⟨_, rfl⟩
  rw [← hM1]
  have e1 : eqx [21] M M1 := by rw [hM1]; exact eqx_st (eqx_rf _ _) (by decide) _ _
  have p0 : M1 21 0 = nI (h - 1) := by rw [hM1, st_at, upd_at]
  have p2 : M1 21 2 = nI od := by rw [hM1, st_at, upd_ne _ _ (by decide), o3]
  have e : rm (nI od + nI (h - 1)) (8 : Int32) = nI ((od + (h - 1)) % 8) := by
    rw [nI_add]; exact rm_nI (d := 8) (by omega) (by decide) (by decide)
  have hm : (od + (h - 1)) % 8 < 8 := Nat.mod_lt _ (by decide)
  rw [p0, p2, e, if_pos (inb_nI hm (by decide)), ix_nI (by omega)]
  have old : ∀ t, t < h → fC M1 (23 + 3 * ((od + t) % 8)) (hs t) := by
    intro t ht
    have : (od + t) % 8 < 8 := Nat.mod_lt _ (by decide)
    exact fC_eq (o4 t ht) (e1 _ (by simp; omega)) (e1 _ (by simp; omega)) (e1 _ (by simp; omega))
  obtain ⟨M2, a1, a2, a3⟩ := c_copy (k0 := 1) (k1 := 23 + 3 * ((od + (h - 1)) % 8)) (by omega) (old (h - 1) (by omega))
  rw [a1]
  refine ⟨M2, rfl, eqx_tr (eqx_mono e1 (by decide)) (eqx_mono a2 (by decide)), ⟨od, o1, ?_, ?_, ?_⟩, a3⟩
  · rw [a2 _ (by decide)]; exact p0
  · rw [a2 _ (by decide)]; exact p2
  · intro t ht
    exact fC_eq (old t (by omega)) (a2 _ (by simp; omega)) (a2 _ (by simp; omega)) (a2 _ (by simp; omega))
