/-! ===== a box in space ===== -/
def inX (v : Nat → Nat) (c a : Nat) : Bool := decide (v a ≤ cd c a ∧ cd c a < v a + v (3 + a))
theorem inB_X (v : Nat → Nat) (c : Nat) : inB v c = ((inX v c 0 && inX v c 1) && inX v c 2) := rfl
theorem c_contains {M : Mem} {k c g : Nat} {v : Nat → Nat} (hg : 5000 < g) (hx : hX M k v) (hv : okB v) (hc : c < 216) : fn_X0_contains g k (nI c) M = some (if inB v c then 1 else 0) := by
  unfold fn_X0_contains
  have bd : ∀ a, a < 3 → bd_X0_contains_2 k (nI c) M (nI a) = if inX v c a then some (.inl (nI (a + 1))) else some (.inr (.inr 0)) := by
    intro a ha
    obtain ⟨v1, v2, v3⟩ := hv a ha
    obtain ⟨e1, e2⟩ := cd_eq0 c hc a ha
    simp only [bd_X0_contains_2, u1]
    rw [if_neg (show ¬ (3 : Int32) ≤ nI a from nI_ge (b := 3) ha (by decide)), if_pos (inb_nI (show a < 6 by omega) (by decide)), e1, ix_nI (by omega), hx a (by omega), show (3 : Int32) + nI a = nI (3 + a) from nI_add 3 a, ix_nI (by omega), hx (3 + a) (by omega)]
    simp only [bv]
    unfold inX
    by_cases c1 : v a ≤ cd c a
    · rw [nI_sub c1, if_neg (nI_nn (by omega)), if_pos (inb_nI (show 3 + a < 6 by omega) (by decide))]
      by_cases c2 : cd c a < v a + v (3 + a)
      · rw [if_pos ((nI_ltI (by omega) (by omega)).mpr (by omega)), inc, if_pos (by simp [c1, c2])]
      · rw [if_neg (fun q => by have := (nI_ltI (by omega) (by omega)).mp q; omega), if_neg (by simp [c2])]
    · rw [if_pos ?_, if_neg (by simp [c1])]
      have h1 : (nI (cd c a)).toInt = (cd c a : Int) := nI_toInt (by omega)
      have h2 : (nI (v a)).toInt = (v a : Int) := nI_toInt (by omega)
      rw [fa_lt, fb_subI (by rw [h1, h2]; omega) (by rw [h1, h2]; omega), h1, h2]
      have : (0 : Int32).toInt = 0 := by decide
      rw [this]; omega
  rw [inB_X]
  have b0 := bd 0 (by omega)
  have b1 := bd 1 (by omega)
  have b2 := bd 2 (by omega)
  have b3 : bd_X0_contains_2 k (nI c) M (nI 3) = some (.inr (.inl ())) := by
    simp only [bd_X0_contains_2, u1]
    rw [if_pos (by decide)]
  cases h0 : inX v c 0
  · rw [h0] at b0
    simp only [Bool.false_eq_true, if_false] at b0
    refine lp_forb (fun a => nI a) 0 (Sum.inr 0) rfl (by omega) (fun k hk => by omega) b0 rfl
  rw [h0] at b0
  simp only [if_true] at b0
  cases h1 : inX v c 1
  · rw [h1] at b1
    simp only [Bool.false_eq_true, if_false] at b1
    refine lp_forb (fun a => nI a) 1 (Sum.inr 0) rfl (by omega) ?_ b1 rfl
    intro k hk
    have e : k = 0 := by omega
    subst e
    exact b0
  rw [h1] at b1
  simp only [if_true] at b1
  cases h2 : inX v c 2
  · rw [h2] at b2
    simp only [Bool.false_eq_true, if_false] at b2
    refine lp_forb (fun a => nI a) 2 (Sum.inr 0) rfl (by omega) ?_ b2 rfl
    intro k hk
    have e : k = 0 ∨ k = 1 := by omega
    rcases e with rfl | rfl
    · exact b0
    · exact b1
  · rw [h2] at b2
    simp only [if_true] at b2
    refine lp_forb (fun a => nI a) 3 (Sum.inl ()) rfl (by omega) ?_ b3 rfl
    intro k hk
    have e : k = 0 ∨ k = 1 ∨ k = 2 := by omega
    rcases e with rfl | rfl | rfl
    · exact b0
    · exact b1
    · exact b2
/-- whether a box has a cell of another piece; q is the piece's number and one, or 0 -/
def mtf (o : Nat → Nat) (q : Nat) (v : Nat → Nat) (c : Nat) : Bool := (o c != 0 && o c != q) && inB v c
def mt (o : Nat → Nat) (q : Nat) (v : Nat → Nat) : Bool := decide (fa_first (mtf o q v) 216 < 216)
theorem first_any (f : Nat → Bool) (n : Nat) : decide (fa_first f n < n) = anyB f n := by
  apply bool_ext
  rw [decide_eq_true_eq, anyB_iff]
  constructor
  · intro h; exact ⟨_, h, fa_first_yes _ _ h⟩
  · rintro ⟨k, h1, h2⟩
    apply Classical.byContradiction
    intro hn
    have hle := fa_first_le f n
    rw [fa_first_no f n k (by omega)] at h2
    cases h2
def pcx (x : Int32) (q : Nat) : Prop := ∀ a, a ≤ 8 → a ≠ 0 → (oI a = x ↔ a = q)
theorem pcx_m1 : pcx (-1) 0 := fun a h1 h2 => by rw [oI_m1 (by omega)]
theorem pcx_m9 : pcx (-9) 0 := fun a h1 h2 => by
  obtain ⟨p, rfl⟩ : ∃ p, a = p + 1 := ⟨a - 1, by omega⟩
  rw [oI_s]
  exact ⟨fun e => absurd e (m9_ne p (by omega)), fun e => absurd e h2⟩
theorem pcx_p {p : Nat} (h : p < 2 ^ 31) : pcx (nI p) (p + 1) := fun a h1 _ => oI_eq (by omega) h
theorem c_meets {M : Mem} {k0 k1 g q : Nat} {x : Int32} {o v : Nat → Nat} (hg : 5000 < g) (h0 : hO M k0 o) (ho : ∀ c, c < 216 → o c ≤ 8) (hx : hX M k1 v) (hv : okB v) (hq : pcx x q) : fn_X1_meetsOther g k0 k1 x M = some (if mt o q v then 1 else 0) := by
  unfold fn_X1_meetsOther
  have bd : ∀ c, c < 216 → bd_X1_meetsOther_2 g k0 k1 x M (nI c) = if mtf o q v c then some (.inr (.inr 1)) else some (.inl (nI (c + 1))) := by
    intro c hc
    have hoc := ho c hc
    simp only [bd_X1_meetsOther_2, u1]
    rw [if_neg (show ¬ (216 : Int32) ≤ nI c from nI_ge (b := 216) hc (by decide)), if_pos (inb_nI hc (by decide)), ix_nI (by omega), h0 c hc, inc, c_contains hg hx hv hc]
    simp only [bv, Option.bind_some]
    unfold mtf
    by_cases c1 : o c = 0
    · rw [if_pos ((oI_m1 (by omega)).mpr c1), if_neg (by simp [c1])]
    · rw [if_neg (fun z => c1 ((oI_m1 (by omega)).mp z))]
      by_cases c2 : o c = q
      · rw [if_pos ((hq _ hoc c1).mpr c2), if_neg (by simp [c2])]
      · rw [if_neg (fun z => c2 ((hq _ hoc c1).mp z))]
        cases inB v c
        · simp
        · simp [c1, c2]
  have hle : fa_first (mtf o q v) 216 ≤ 216 := fa_first_le _ _
  have hst : ∀ c, c < fa_first (mtf o q v) 216 → bd_X1_meetsOther_2 g k0 k1 x M (nI c) = some (.inl (nI (c + 1))) := by
    intro c hc
    rw [bd c (by omega), fa_first_no _ _ _ hc]; rfl
  unfold mt
  by_cases c : fa_first (mtf o q v) 216 < 216
  · rw [if_pos (by simp [c])]
    refine lp_forb (fun p => nI p) (fa_first (mtf o q v) 216) (.inr 1) rfl (by omega) hst ?_ rfl
    rw [bd _ c, fa_first_yes _ _ c]; rfl
  · rw [if_neg (by simp [c])]
    refine lp_forb (fun p => nI p) 216 (.inl ()) rfl (by omega) (fun p hp => hst p (by omega)) ?_ rfl
    simp only [bd_X1_meetsOther_2, u1]
    rw [if_pos (by decide)]
def adO (o : Nat → Nat) (q : Nat) (v : Nat → Nat) (c : Nat) : Nat := if inB v c then q else o c
def adB (F : FR) (p : Nat) (v : Nat → Nat) : FR := (if p = F.n then F.n + 1 else F.n, F.b, F.s, (fun j => if j = p then F.x j + 1 else F.x j), adO F.o (p + 1) v)
theorem c_addBox {M : Mem} {k0 k1 p g : Nat} {F : FR} {v : Nat → Nat} (hg : 5000 < g) (hk : k0 + 3 ≤ k1 ∨ k1 + 2 ≤ k0) (h : fC M k0 F) (hn : F.n ≤ 8) (hp : p ≤ F.n) (hp8 : p < 8) (hx : hX M k1 v) (hv : okB v) : ∃ M', fn_X1_addBox g k0 k1 (nI p) M = some M' ∧ eqx [k0, k0 + 1, k0 + 2] M M' ∧ fC M' k0 (adB F p v) := by
  obtain ⟨h1, h2, h3, h4, h5⟩ := h
  unfold fn_X1_addBox
  rw [if_neg (nI_nn (by omega)), h1, if_neg (fun q => by have := (nI_ltI (by omega) (by omega)).mp q; omega), if_pos (show nI p < (8 : Int32) from nI_lt (b := 8) hp8 (by decide))]
  have key : ∃ M', lpN g (bd_X1_addBox_21 g k0 k1 (nI p)) ((0 : Int32), M) = some M' ∧ (eqx [k0 + 1] M M' ∧ hO M' k0 (adO F.o (p + 1) v)) := by
    refine lp_inv (fun i w => w.1 = nI i ∧ eqx [k0 + 1] M w.2 ∧ (∀ c, c < 216 → w.2 (k0 + 1) c = oI (if c < i then adO F.o (p + 1) v c else F.o c))) _ 216 ?_ ?_ (by omega) ⟨rfl, eqx_rf _ _, fun c hc => by rw [if_neg (by omega)]; exact h5 c hc⟩
    · rintro i ⟨w, N⟩ hi ⟨q1, q2, q3⟩
      dsimp only at q1 q2 q3
      subst q1
      have hxN : hX N k1 v := fun j hj => by rw [q2 _ (by simp; omega)]; exact hx j hj
      simp only [bd_X1_addBox_21, u2]
      rw [if_neg (show ¬ (216 : Int32) ≤ nI i from nI_ge (b := 216) hi (by decide)), c_contains hg hxN hv hi, inc]
      simp only [Option.bind_some]
      cases e : inB v i
      · simp only [Bool.false_eq_true, if_false, if_true]
        refine ⟨_, rfl, rfl, q2, ?_⟩
        intro c hc
        dsimp only
        rw [q3 c hc]
        by_cases e1 : c = i
        · subst e1
          rw [if_neg (by omega), if_pos (by omega)]
          unfold adO
          rw [e]; rfl
        · by_cases e2 : c < i
          · rw [if_pos e2, if_pos (by omega)]
          · rw [if_neg e2, if_neg (by omega)]
      · simp only [if_true]
        rw [if_neg (by decide), if_pos (inb_nI hi (by decide)), ix_nI (by omega)]
        simp only [bv]
        refine ⟨_, rfl, rfl, eqx_st q2 (by simp) _ _, ?_⟩
        intro c hc
        dsimp only
        rw [st_at]
        by_cases e1 : c = i
        · subst e1
          rw [upd_at, if_pos (by omega)]
          unfold adO
          rw [e, if_pos rfl, oI_s]
        · rw [upd_ne _ _ e1, q3 c hc]
          by_cases e2 : c < i
          · rw [if_pos e2, if_pos (by omega)]
          · rw [if_neg e2, if_neg (by omega)]
    · rintro ⟨w, N⟩ ⟨q1, q2, q3⟩
      dsimp only at q1 q2 q3
      subst q1
      refine ⟨N, ?_, q2, fun c hc => by rw [q3 c hc, if_pos hc]⟩
      simp only [bd_X1_addBox_21, u2]
      rw [if_pos (by decide)]
  obtain ⟨M1, a1, a2, a3⟩ := key
  rw [a1]
  simp only [Option.bind_some, u1]
  rw [if_pos (inb_nI hp8 (by decide)), if_pos (inb_nI hp8 (by decide)), ix_nI (by omega)]
  simp only [bv]
  obtain ⟨M2, hM2⟩ : ∃ z, z = st M1 (k0 + 2) p (M1 (k0 + 2) p + 1) := ⟨_, rfl⟩
  rw [← hM2]
  have e2 : eqx [k0 + 2] M1 M2 := by rw [hM2]; exact eqx_st (eqx_rf _ _) (by simp) _ _
  have m0 : M2 k0 = M k0 := (e2 _ (by simp)).trans (a2 _ (by simp))
  have f4 : ∀ j, j < 8 → M2 (k0 + 2) j = nI ((adB F p v).x j) := by
    intro j hj
    show M2 (k0 + 2) j = nI (if j = p then F.x j + 1 else F.x j)
    rw [hM2, st_at]
    by_cases e : j = p
    · rw [e, upd_at, a2 _ (by simp), h4 p hp8, inc, if_pos rfl]
    · rw [upd_ne _ _ e, a2 _ (by simp), h4 j hj, if_neg e]
  have f5 : hO M2 k0 (adB F p v).o := fun c hc => by rw [e2 _ (by simp)]; exact a3 c hc
  have ee : eqx [k0, k0 + 1, k0 + 2] M M2 := eqx_tr (eqx_mono a2 (by simp)) (eqx_mono e2 (by simp))
  rw [m0, h1]
  by_cases c : p = F.n
  · rw [if_pos (by rw [c])]
    refine ⟨_, rfl, eqx_st ee (by simp) _ _, ?_, ?_, ?_, ?_, ?_⟩
    · rw [st_at, upd_at, inc]
      show _ = nI (if p = F.n then F.n + 1 else F.n)
      rw [if_pos c]
    · rw [st_at, upd_ne _ _ (by decide), m0]; exact h2
    · rw [st_at, upd_ne _ _ (by decide), m0]; exact h3
    · intro j hj; rw [st_ne _ _ _ (by omega)]; exact f4 j hj
    · intro j hj; rw [st_ne _ _ _ (by omega)]; exact f5 j hj
  · rw [if_neg (fun q => c ((nI_eq (by omega) (by omega)).mp q))]
    refine ⟨_, rfl, ee, ?_, by rw [m0]; exact h2, by rw [m0]; exact h3, f4, f5⟩
    rw [m0, h1]
    show _ = nI (if p = F.n then F.n + 1 else F.n)
    rw [if_neg c]
/-! the reference's walk through a box -/
def bN (v : Nat → Nat) : Nat := v 3 * v 4 * v 5
def pl (v : Nat → Nat) (k : Nat) : Nat := (v 0 + k % v 3) + 6 * (v 1 + k / v 3 % v 4) + 36 * (v 2 + k / (v 3 * v 4))
theorem cd_xyz {x y z : Nat} (hx : x < 6) (hy : y < 6) (hz : z < 6) : cd (x + 6 * y + 36 * z) 0 = x ∧ cd (x + 6 * y + 36 * z) 1 = y ∧ cd (x + 6 * y + 36 * z) 2 = z := by
  refine ⟨?_, ?_, ?_⟩
  · show (x + 6 * y + 36 * z) % 6 = x; omega
  · show (x + 6 * y + 36 * z) / 6 % 6 = y; omega
  · show (x + 6 * y + 36 * z) / 36 = z; omega
theorem bN_le {v : Nat → Nat} (hv : okB v) : bN v ≤ 216 := by
  have a := hv 0 (by omega)
  have b := hv 1 (by omega)
  have c := hv 2 (by omega)
  have a' : v 3 ≤ 6 := by have : v 0 + v 3 ≤ 6 := a.2.2; omega
  have b' : v 4 ≤ 6 := by have : v 1 + v 4 ≤ 6 := b.2.2; omega
  have c' : v 5 ≤ 6 := by have : v 2 + v 5 ≤ 6 := c.2.2; omega
  exact Nat.mul_le_mul (Nat.mul_le_mul a' b') c'
theorem pl_at {v : Nat → Nat} (hv : okB v) {k : Nat} (hk : k < bN v) : k % v 3 < v 3 ∧ k / v 3 % v 4 < v 4 ∧ k / (v 3 * v 4) < v 5 := by
  have a : 1 ≤ v 3 := (hv 0 (by omega)).2.1
  have b : 1 ≤ v 4 := (hv 1 (by omega)).2.1
  exact ⟨Nat.mod_lt _ a, Nat.mod_lt _ b, Nat.div_lt_of_lt_mul hk⟩
theorem pl_in {v : Nat → Nat} (hv : okB v) {k : Nat} (hk : k < bN v) : pl v k < 216 ∧ inB v (pl v k) = true := by
  obtain ⟨h1, h2, h3⟩ := pl_at hv hk
  have a : v 0 + v 3 ≤ 6 := (hv 0 (by omega)).2.2
  have b : v 1 + v 4 ≤ 6 := (hv 1 (by omega)).2.2
  have c : v 2 + v 5 ≤ 6 := (hv 2 (by omega)).2.2
  unfold inB pl
  generalize k % v 3 = u1 at *
  generalize k / v 3 % v 4 = u2 at *
  generalize k / (v 3 * v 4) = u3 at *
  obtain ⟨e0, e1, e2⟩ := cd_xyz (x := v 0 + u1) (y := v 1 + u2) (z := v 2 + u3) (by omega) (by omega) (by omega)
  refine ⟨by omega, ?_⟩
  rw [e0, e1, e2]
  simp only [Bool.and_eq_true, decide_eq_true_eq]
  omega
theorem cd_all0 : ∀ c, c < 216 → cd c 0 + 6 * cd c 1 + 36 * cd c 2 = c := by decide +kernel
theorem pl_on {v : Nat → Nat} (hv : okB v) {c : Nat} (hc : c < 216) (h : inB v c = true) : ∃ k, k < bN v ∧ pl v k = c := by
  unfold inB at h
  simp only [Bool.and_eq_true, decide_eq_true_eq] at h
  obtain ⟨⟨⟨h1, h2⟩, h3, h4⟩, h5, h6⟩ := h
  obtain ⟨u, hu⟩ : ∃ u, cd c 0 = v 0 + u := ⟨cd c 0 - v 0, by omega⟩
  obtain ⟨w, hw⟩ : ∃ w, cd c 1 = v 1 + w := ⟨cd c 1 - v 1, by omega⟩
  obtain ⟨z, hz⟩ : ∃ z, cd c 2 = v 2 + z := ⟨cd c 2 - v 2, by omega⟩
  have u3 : u < v 3 := by omega
  have w4 : w < v 4 := by omega
  have z5 : z < v 5 := by omega
  have m1 : (u + v 3 * (w + v 4 * z)) % v 3 = u := by rw [Nat.add_mul_mod_self_left, Nat.mod_eq_of_lt u3]
  have d1 : (u + v 3 * (w + v 4 * z)) / v 3 = w + v 4 * z := by rw [Nat.add_mul_div_left _ _ (by omega), Nat.div_eq_of_lt u3, Nat.zero_add]
  have m2 : (w + v 4 * z) % v 4 = w := by rw [Nat.add_mul_mod_self_left, Nat.mod_eq_of_lt w4]
  have d2 : (w + v 4 * z) / v 4 = z := by rw [Nat.add_mul_div_left _ _ (by omega), Nat.div_eq_of_lt w4, Nat.zero_add]
  refine ⟨u + v 3 * (w + v 4 * z), ?_, ?_⟩
  · unfold bN
    have s1 : w + v 4 * z < v 4 * v 5 := by
      have : v 4 * (z + 1) ≤ v 4 * v 5 := Nat.mul_le_mul_left _ z5
      rw [Nat.mul_add, Nat.mul_one] at this
      omega
    have s2 : v 3 * (w + v 4 * z + 1) ≤ v 3 * (v 4 * v 5) := Nat.mul_le_mul_left _ s1
    rw [Nat.mul_add, Nat.mul_one, ← Nat.mul_assoc (v 3) (v 4) (v 5)] at s2
    omega
  · unfold pl
    rw [m1, ← Nat.div_div_eq_div_mul, d1, m2, d2, ← hu, ← hw, ← hz]
    exact cd_all0 c hc
theorem m_pl {v : Nat → Nat} (hv : okB v) {k : Nat} (hk : k < bN v) : (nI (v 3) * nI (v 4) * nI (v 5) = nI (bN v)) ∧ (¬ nI (v 3) = 0) ∧ (¬ nI (v 4) = 0) ∧ (¬ nI (v 3) * nI (v 4) = 0) ∧ fn_X8_place (nI (v 0) + rm (nI k) (nI (v 3))) (nI (v 1) + rm (nI k / nI (v 3)) (nI (v 4))) (nI (v 2) + nI k / (nI (v 3) * nI (v 4))) = nI (pl v k) := by
  have a : 1 ≤ v 3 := (hv 0 (by omega)).2.1
  have b : 1 ≤ v 4 := (hv 1 (by omega)).2.1
  have a' : v 0 + v 3 ≤ 6 := (hv 0 (by omega)).2.2
  have b' : v 1 + v 4 ≤ 6 := (hv 1 (by omega)).2.2
  have hb := bN_le hv
  have ab : v 3 * v 4 ≤ 36 := Nat.mul_le_mul (show v 3 ≤ 6 by omega) (show v 4 ≤ 6 by omega)
  have ab1 : 1 ≤ v 3 * v 4 := Nat.mul_pos a b
  have kd : k / v 3 ≤ k := Nat.div_le_self _ _
  refine ⟨by rw [pk_mul, pk_mul]; rfl, fun q => by have := (nI_z (by omega)).mp q; omega, fun q => by have := (nI_z (by omega)).mp q; omega, fun q => by rw [pk_mul] at q; have := (nI_z (by omega)).mp q; omega, ?_⟩
  rw [pk_mul, rm_nI (by omega) (by omega) (by omega), pk_div (by omega) (by omega) (by omega), rm_nI (by omega) (by omega) (by omega), pk_div (by omega) (by omega) (by omega), nI_add, nI_add, nI_add, m_place]
  rfl
theorem m_meets {M : Mem} {g q : Nat} {x : Int32} {o v : Nat → Nat} (hg : 5000 < g) (h0 : hP M o) (ho : ∀ c, c < 216 → o c ≤ 8) (hv : okB v) (hq : pcx x q) : fn_X8_meets g x (nI (v 0)) (nI (v 1)) (nI (v 2)) (nI (v 3)) (nI (v 4)) (nI (v 5)) M = some (if mt o q v then 1 else 0) := by
  have hb := bN_le hv
  have hmt : mt o q v = anyB (fun k => o (pl v k) != 0 && o (pl v k) != q) (bN v) := by
    unfold mt
    rw [first_any]
    apply bool_ext
    rw [anyB_iff, anyB_iff]
    constructor
    · rintro ⟨c, hc, h⟩
      unfold mtf at h
      rw [Bool.and_eq_true] at h
      obtain ⟨k, hk, e⟩ := pl_on hv hc h.2
      exact ⟨k, hk, by rw [e]; exact h.1⟩
    · rintro ⟨k, hk, h⟩
      obtain ⟨e1, e2⟩ := pl_in hv hk
      exact ⟨pl v k, e1, by unfold mtf; rw [Bool.and_eq_true]; exact ⟨h, e2⟩⟩
  rw [hmt]
  unfold fn_X8_meets
  refine lp_forb (fun k => (if anyB (fun k => o (pl v k) != 0 && o (pl v k) != q) k then 1 else 0, nI k)) (bN v) (if anyB (fun k => o (pl v k) != 0 && o (pl v k) != q) (bN v) then 1 else 0) rfl (by omega) ?_ ?_ ?_
  · intro k hk
    obtain ⟨p1, p2, p3, p4, p5⟩ := m_pl hv hk
    obtain ⟨e1, _⟩ := pl_in hv hk
    have hoc := ho _ e1
    simp only [bd_X8_meets_6, u2]
    rw [p1, if_neg (nI_ge hk (by omega)), if_pos p2, if_pos p2, if_pos p3, if_pos p4, p5, m_at h0 e1, anyB_s]
    simp only [Option.bind_some]
    unfold jn_X8_meets_76 jn_X8_meets_72 jn_X8_meets_77
    rw [inc]
    cases anyB (fun k => o (pl v k) != 0 && o (pl v k) != q) k
    · simp only [Bool.false_eq_true, if_false, if_true, Bool.false_or]
      by_cases c1 : o (pl v k) = 0
      · rw [if_pos ((oI_lt0 (by omega)).mpr c1), if_neg (by simp [c1])]
      · rw [if_neg (fun z => c1 ((oI_lt0 (by omega)).mp z))]
        by_cases c2 : o (pl v k) = q
        · rw [if_pos ((hq _ hoc c1).mpr c2), if_neg (by simp [c2])]
        · rw [if_neg (fun z => c2 ((hq _ hoc c1).mp z)), if_pos (by simp [c1, c2])]
    · simp only [if_true, Bool.true_or]
      rw [if_neg (by decide)]
  · simp only [bd_X8_meets_6, u2]
    rw [show nI (v 3) * nI (v 4) * nI (v 5) = nI (bN v) by rw [pk_mul, pk_mul]; rfl, if_pos (Int32.le_refl _)]
  · simp only [u1]
    rw [if_pos (by cases anyB (fun k => o (pl v k) != 0 && o (pl v k) != q) (bN v) <;> simp [isZ])]
theorem m_fills {M : Mem} {g p : Nat} {F : FR} {v : Nat → Nat} (hg : 5000 < g) (h : fM M 0 F) (hp : p < 8) (hv : okB v) : ∃ M', fn_X8_fills g (nI p) (nI (v 0)) (nI (v 1)) (nI (v 2)) (nI (v 3)) (nI (v 4)) (nI (v 5)) M = some M' ∧ eqx [62] M M' ∧ fM M' 0 (F.n, F.b, F.s, (fun j => if j = p then F.x j + 1 else F.x j), adO F.o (p + 1) v) ∧ (∀ j, 227 ≤ j → M' 62 j = M 62 j) := by
  have hb := bN_le hv
  unfold fn_X8_fills
  have key : ∃ M', lpN g (bd_X8_fills_3 (nI p) (nI (v 0)) (nI (v 1)) (nI (v 2)) (nI (v 3)) (nI (v 4)) (nI (v 5))) ((0 : Int32), M) = some M' ∧ (eqx [62] M M' ∧ (∀ c, c < 216 → M' 62 (11 + c) = nI (if anyB (fun k => pl v k == c) (bN v) then p + 1 else F.o c)) ∧ (∀ j, (j < 11 ∨ 227 ≤ j) → M' 62 j = M 62 j)) := by
    refine lp_inv (fun k w => w.1 = nI k ∧ eqx [62] M w.2 ∧ (∀ c, c < 216 → w.2 62 (11 + c) = nI (if anyB (fun k => pl v k == c) k then p + 1 else F.o c)) ∧ (∀ j, (j < 11 ∨ 227 ≤ j) → w.2 62 j = M 62 j)) _ (bN v) ?_ ?_ (by omega) ⟨rfl, eqx_rf _ _, fun c hc => fM_o h c hc, fun j _ => rfl⟩
    · rintro k ⟨w, N⟩ hk ⟨q1, q2, q3, q4⟩
      dsimp only at q1 q2 q3 q4
      subst q1
      obtain ⟨p1, p2, p3, p4, p5⟩ := m_pl hv hk
      obtain ⟨e1, _⟩ := pl_in hv hk
      simp only [bd_X8_fills_3, u2]
      rw [p1, if_neg (nI_ge hk (by omega)), if_pos p2, if_pos p2, if_pos p3, if_pos p4, p5, show (11 : Int32) + nI (pl v k) = nI (11 + pl v k) from nI_add 11 _, if_pos (inb_nI (show 11 + pl v k < 2270 by omega) (by decide)), ix_nI (by omega), inc, inc]
      simp only [bv]
      refine ⟨_, rfl, rfl, eqx_st q2 (by decide) _ _, ?_, ?_⟩
      · intro c hc
        dsimp only
        rw [st_at, anyB_s]
        by_cases e : c = pl v k
        · rw [e, upd_at, if_pos (by simp)]
        · rw [upd_ne _ _ (by omega), q3 c hc, show (pl v k == c) = false by simp; omega, Bool.or_false]
      · intro j hj
        dsimp only
        rw [st_at, upd_ne _ _ (by omega)]
        exact q4 j hj
    · rintro ⟨w, N⟩ ⟨q1, q2, q3, q4⟩
      dsimp only at q1 q2 q3 q4
      subst q1
      refine ⟨N, ?_, q2, q3, q4⟩
      simp only [bd_X8_fills_3, u2]
      rw [show nI (v 3) * nI (v 4) * nI (v 5) = nI (bN v) by rw [pk_mul, pk_mul]; rfl, if_pos (Int32.le_refl _)]
  obtain ⟨M1, a1, a2, a3, a4⟩ := key
  rw [a1]
  simp only [Option.bind_some, u1]
  rw [show (3 : Int32) + nI p = nI (3 + p) from nI_add 3 p, if_pos (inb_nI (show 3 + p < 2270 by omega) (by decide)), if_pos (inb_nI (show 3 + p < 2270 by omega) (by decide)), ix_nI (by omega)]
  simp only [bv]
  have hin : ∀ c, c < 216 → anyB (fun k => pl v k == c) (bN v) = inB v c := by
    intro c hc
    apply bool_ext
    rw [anyB_iff]
    constructor
    · rintro ⟨k, hk, e⟩
      have e : pl v k = c := by simpa using e
      rw [← e]
      exact (pl_in hv hk).2
    · intro e
      obtain ⟨k, hk, e⟩ := pl_on hv hc e
      exact ⟨k, hk, by simp [e]⟩
  refine ⟨_, rfl, eqx_st a2 (by decide) _ _, fM_mk ?_ ?_ ?_ ?_ ?_, ?_⟩
  · rw [st_at, upd_ne _ _ (by omega), a4 _ (by omega)]; exact fM_n (F := F) h
  · rw [st_at, upd_ne _ _ (by omega), a4 _ (by omega)]; exact fM_b (F := F) h
  · rw [st_at, upd_ne _ _ (by omega), a4 _ (by omega)]; exact fM_s (F := F) h
  · intro j hj
    show _ = nI (if j = p then F.x j + 1 else F.x j)
    rw [st_at]
    by_cases e : j = p
    · rw [e, upd_at, a4 _ (by omega), fM_x h hp, inc, if_pos rfl]
    · rw [upd_ne _ _ (by omega), a4 _ (by omega), fM_x h hj, if_neg e]
  · intro c hc
    show _ = nI (adO F.o (p + 1) v c)
    rw [st_at, upd_ne _ _ (by omega), a3 c hc, hin c hc]
    rfl
  · intro j hj
    rw [st_at, upd_ne _ _ (by omega)]
    exact a4 j (by omega)
theorem mt_q {o : Nat → Nat} {n : Nat} (ho : ∀ c, c < 216 → o c ≤ n) (v : Nat → Nat) : mt o (n + 1) v = mt o 0 v := by
  unfold mt
  rw [first_any, first_any]
  apply anyB_cong
  intro c hc
  have := ho c hc
  unfold mtf
  congr 1
  by_cases e : o c = 0
  · simp [e]
  · rw [show (o c != n + 1) = true by simp; omega, show (o c != 0) = true by simp [e]]
theorem okF_ad {F : FR} (h : okF F) {p : Nat} {v : Nat → Nat} (hp : p ≤ F.n) (hp8 : p < 8) (hx : F.x p < 4) (hv : okB v) (hm : mt F.o (p + 1) v = false) : okF (adB F p v) := by
  obtain ⟨h1, h2, h3, h4, h5⟩ := h
  unfold mt at hm
  rw [first_any] at hm
  have hm' : ∀ c, c < 216 → inB v c = true → F.o c = 0 ∨ F.o c = p + 1 := by
    intro c hc hi
    apply Classical.byContradiction
    intro q
    have : anyB (mtf F.o (p + 1) v) 216 = true := by
      rw [anyB_iff]
      refine ⟨c, hc, ?_⟩
      unfold mtf
      rw [hi]
      simp
      omega
    rw [hm] at this
    cases this
  have hn : (adB F p v).n = if p = F.n then F.n + 1 else F.n := rfl
  have hle : F.n ≤ (adB F p v).n := by rw [hn]; split <;> omega
  have hpn : p < (adB F p v).n := by rw [hn]; split <;> omega
  refine ⟨by rw [hn]; split <;> omega, Nat.lt_of_lt_of_le h2 (Nat.pow_le_pow_right (by decide) hle), ?_, ?_, ?_⟩
  · intro j hj
    obtain ⟨y1, y2⟩ := h3 j hj
    show (if j = p then F.x j + 1 else F.x j) ≤ 4 ∧ ((adB F p v).n ≤ j → (if j = p then F.x j + 1 else F.x j) = 0)
    by_cases e : j = p
    · subst e
      rw [if_pos rfl]
      exact ⟨by omega, fun q => by omega⟩
    · rw [if_neg e]
      exact ⟨y1, fun q => y2 (by omega)⟩
  · intro c hc
    show (if inB v c then p + 1 else F.o c) ≤ (adB F p v).n
    have := h4 c hc
    split <;> omega
  · intro q hq
    by_cases e : q = p
    · subst e
      have hb : 0 < bN v := by
        have a : 1 ≤ v 3 := (hv 0 (by omega)).2.1
        have b : 1 ≤ v 4 := (hv 1 (by omega)).2.1
        have c : 1 ≤ v 5 := (hv 2 (by omega)).2.1
        exact Nat.mul_pos (Nat.mul_pos a b) c
      obtain ⟨e1, e2⟩ := pl_in hv hb
      exact ⟨pl v 0, e1, by show (if inB v (pl v 0) then q + 1 else F.o (pl v 0)) = q + 1; rw [if_pos e2]⟩
    · have hq' : q < F.n := by rw [hn] at hq; split at hq <;> omega
      obtain ⟨c, hc, ec⟩ := h5 q hq'
      refine ⟨c, hc, ?_⟩
      show (if inB v c then p + 1 else F.o c) = q + 1
      rw [if_neg ?_]
      · exact ec
      · intro hi
        have := hm' c hc hi
        omega
