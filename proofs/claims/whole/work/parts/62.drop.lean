/-! ===== drop ===== -/
def dpO (o : Nat → Nat) (p c : Nat) : Nat := if o c = p + 1 then 0 else if o c ≤ p + 1 then o c else o c - 1
def dpX (x : Nat → Nat) (p j : Nat) : Nat := if j < p then x j else if j < 7 then x (j + 1) else 0
def dpb (b p : Nat) : Nat := msk (fun i => if i < p then b.testBit i else b.testBit (i + 1)) 8
def dpF (F : FR) (p : Nat) : FR := (F.n - 1, dpb F.b p, F.s, dpX F.x p, dpO F.o p)
theorem c_dpb0 : ∀ b, b < 256 → ∀ p, p < 8 → (nI b &&& (sl 1 (nI p) - 1)) ||| sl (sr (nI b) (nI p + 1)) (nI p) = nI (dpb b p) := by decide +kernel
theorem m_dpb0 : ∀ b, b < 256 → ∀ p, p < 8 → (nI b &&& (sl 1 (nI p) - 1)) ||| (sr (nI b) 1 &&& ((sl 1 (nI p) - 1) ^^^ (-1))) = nI (dpb b p) := by decide +kernel
theorem dpb_lt {b p n : Nat} (hp : p < n) (hb : b < 2 ^ n) : dpb b p < 2 ^ (n - 1) := by
  apply Nat.lt_pow_two_of_testBit
  intro i hi
  unfold dpb
  rw [msk_bit, if_neg (by omega), Nat.testBit_lt_two_pow (Nat.lt_of_lt_of_le hb (Nat.pow_le_pow_right (by decide) (by omega)))]
  simp
theorem okF_dp {F : FR} (h : okF F) {p : Nat} (hp : p < F.n) : okF (dpF F p) := by
  obtain ⟨h1, h2, h3, h4, h5⟩ := h
  refine ⟨by show F.n - 1 ≤ 8; omega, dpb_lt hp h2, ?_, ?_, ?_⟩
  · intro j hj
    show dpX F.x p j ≤ 4 ∧ (F.n - 1 ≤ j → dpX F.x p j = 0)
    unfold dpX
    by_cases c1 : j < p
    · rw [if_pos c1]; exact ⟨(h3 j hj).1, fun q => by omega⟩
    · rw [if_neg c1]
      by_cases c2 : j < 7
      · rw [if_pos c2]; exact ⟨(h3 (j + 1) (by omega)).1, fun q => (h3 (j + 1) (by omega)).2 (by omega)⟩
      · rw [if_neg c2]; exact ⟨by omega, fun _ => rfl⟩
  · intro c hc
    have := h4 c hc
    show dpO F.o p c ≤ F.n - 1
    unfold dpO
    split
    · omega
    · split <;> omega
  · intro q hq
    have hq : q < F.n - 1 := hq
    by_cases c : q < p
    · obtain ⟨c, hc, e⟩ := h5 q (by omega)
      refine ⟨c, hc, ?_⟩
      show dpO F.o p c = q + 1
      unfold dpO
      rw [if_neg (by omega), if_pos (by omega)]; exact e
    · obtain ⟨c, hc, e⟩ := h5 (q + 1) (by omega)
      refine ⟨c, hc, ?_⟩
      show dpO F.o p c = q + 1
      unfold dpO
      rw [if_neg (by omega), if_neg (by omega)]; omega
theorem oI_le {a p : Nat} (ha : a < 2 ^ 31) (hp : p < 2 ^ 31) : oI a ≤ nI p ↔ a ≤ p + 1 := by
  cases a with
  | zero =>
    rw [oI_0]
    constructor
    · intro _; omega
    · intro _
      rw [fa_le, nI_toInt hp]
      have : (-1 : Int32).toInt = -1 := by decide
      omega
  | succ a => rw [oI_s, nI_leI (by omega) hp]; omega
theorem oI_pred {a : Nat} (h : 0 < a) : oI a - 1 = oI (a - 1) := by
  obtain ⟨q, rfl⟩ : ∃ q, a = q + 1 := ⟨a - 1, by omega⟩
  rw [oI_s]; rfl
theorem c_remove {M : Mem} {p g : Nat} {F : FR} (hg : 5000 < g) (h : fC M 1 F) (ok : okF F) (hp : p < F.n) : ∃ M', fn_X1_remove g 1 (nI p) M = some M' ∧ eqx [1, 2, 3] M M' ∧ fC M' 1 (dpF F p) := by
  obtain ⟨h1, h2, h3, h4, h5⟩ := h
  have h8 := ok.1
  unfold fn_X1_remove
  rw [if_neg (nI_nn (by omega)), h1, if_pos (nI_lt hp (by omega))]
  have key : ∃ M', lpN g (bd_X1_remove_15 1 (nI p)) ((0 : Int32), M) = some M' ∧ (eqx [2] M M' ∧ hO M' 1 (dpO F.o p)) := by
    refine lp_inv (fun i w => w.1 = nI i ∧ eqx [2] M w.2 ∧ (∀ c, c < 216 → w.2 2 c = oI (if c < i then dpO F.o p c else F.o c))) _ 216 ?_ ?_ (by omega) ⟨rfl, eqx_rf _ _, fun c hc => by rw [if_neg (by omega)]; exact h5 c hc⟩
    · rintro i ⟨w, N⟩ hi ⟨q1, q2, q3⟩
      dsimp only at q1 q2 q3
      subst q1
      have ii : inb (nI i) 216 := inb_nI hi (by decide)
      have hoi := okF_o ok i hi
      simp only [bd_X1_remove_15, u2]
      have ni : N (1 + 1) i = oI (F.o i) := by have := q3 i hi; rw [if_neg (by omega)] at this; exact this
      rw [if_neg (show ¬ (216 : Int32) ≤ nI i from nI_ge (b := 216) hi (by decide)), if_pos ii, ix_nI (by omega), ni, inc]
      simp only [bv]
      have nxt : ∀ v, v = oI (dpO F.o p i) → ∀ c, c < 216 → st N (1 + 1) i v 2 c = oI (if c < i + 1 then dpO F.o p c else F.o c) := by
        intro v hv c hc
        rw [show (1 + 1) = 2 from rfl, st_at]
        by_cases e : c = i
        · rw [e, upd_at, if_pos (by omega), hv]
        · rw [upd_ne _ _ e, q3 c hc]
          by_cases e2 : c < i
          · rw [if_pos e2, if_pos (by omega)]
          · rw [if_neg e2, if_neg (by omega)]
      by_cases c1 : F.o i = p + 1
      · rw [if_pos ((oI_eq (by omega) (by omega)).mpr c1), if_pos ii]
        refine ⟨_, rfl, rfl, eqx_st q2 (by decide) _ _, nxt _ ?_⟩
        unfold dpO; rw [if_pos c1]; rfl
      · rw [if_neg (fun q => c1 ((oI_eq (by omega) (by omega)).mp q)), if_pos ii]
        by_cases c2 : F.o i ≤ p + 1
        · rw [if_pos ((oI_le (by omega) (by omega)).mpr c2)]
          refine ⟨_, rfl, rfl, q2, ?_⟩
          intro c hc
          have := nxt (oI (F.o i)) (by unfold dpO; rw [if_neg c1, if_pos c2]) c hc
          rw [st_same ni] at this
          exact this
        · rw [if_neg (fun q => c2 ((oI_le (by omega) (by omega)).mp q)), if_pos ii, if_pos ii]
          refine ⟨_, rfl, rfl, eqx_st q2 (by decide) _ _, nxt _ ?_⟩
          unfold dpO; rw [if_neg c1, if_neg c2, oI_pred (by omega)]
    · rintro ⟨w, N⟩ ⟨q1, q2, q3⟩
      dsimp only at q1 q2 q3
      subst q1
      refine ⟨N, ?_, q2, fun c hc => by have := q3 c hc; rw [if_pos hc] at this; exact this⟩
      simp only [bd_X1_remove_15, u2]
      rw [if_pos (by decide)]
  obtain ⟨M1, a1, a2, a3⟩ := key
  rw [a1]
  simp only [Option.bind_some, u1, bv]
  have n1 : M1 1 = M 1 := a2 1 (by decide)
  have key2 : ∃ M', lpN g (bd_X1_remove_72 1) (nI p + 1, M1) = some M' ∧ (eqx [3] M1 M' ∧ (∀ j, j < 8 → M' 3 j = nI (if p ≤ j ∧ j < F.n - 1 then F.x (j + 1) else F.x j))) := by
    refine lp_inv (fun t w => w.1 = nI (p + 1 + t) ∧ eqx [3] M1 w.2 ∧ (∀ j, j < 8 → w.2 3 j = nI (if p ≤ j ∧ j < p + t then F.x (j + 1) else F.x j))) _ (F.n - 1 - p) ?_ ?_ (by omega) ⟨inc p, eqx_rf _ _, fun j hj => by rw [if_neg (by omega), show (nI p + 1, M1).2 = M1 from rfl, a2 3 (by decide)]; exact h4 j hj⟩
    · rintro t ⟨w, N⟩ ht ⟨q1, q2, q3⟩
      dsimp only at q1 q2 q3
      subst q1
      simp only [bd_X1_remove_72, u2]
      rw [q2 1 (by decide), n1, h1, if_neg (nI_ge (show p + 1 + t < F.n by omega) (by omega)), if_pos (inb_nI (show p + 1 + t < 8 by omega) (by decide)), show nI (p + 1 + t) - 1 = nI (p + t) from by rw [show p + 1 + t = p + t + 1 by omega, nI_pred], if_pos (inb_nI (show p + t < 8 by omega) (by decide)), ix_nI (by omega), ix_nI (by omega), inc]
      simp only [bv]
      refine ⟨_, rfl, by rw [Nat.add_assoc], eqx_st q2 (by decide) _ _, ?_⟩
      intro j hj
      dsimp only
      rw [show (1 + 2) = 3 from rfl, st_at]
      by_cases e : j = p + t
      · rw [e, upd_at, if_pos (by omega), q3 _ (by omega), if_neg (by omega), show p + t + 1 = p + 1 + t by omega]
      · rw [upd_ne _ _ e, q3 j hj]
        by_cases e2 : p ≤ j ∧ j < p + t
        · rw [if_pos e2, if_pos (by omega)]
        · rw [if_neg e2, if_neg (by omega)]
    · rintro ⟨w, N⟩ ⟨q1, q2, q3⟩
      dsimp only at q1 q2 q3
      subst q1
      refine ⟨N, ?_, q2, fun j hj => by rw [q3 j hj, show p + (F.n - 1 - p) = F.n - 1 by omega]⟩
      simp only [bd_X1_remove_72, u2]
      rw [q2 1 (by decide), n1, h1, show p + 1 + (F.n - 1 - p) = F.n by omega, if_pos (Int32.le_refl _)]
  obtain ⟨M2, b1, b2, b3⟩ := key2
  rw [b1]
  simp only [Option.bind_some, u1]
  have n2 : M2 1 = M 1 := (b2 1 (by decide)).trans n1
  rw [n2, h1, show nI F.n - 1 = nI (F.n - 1) from nI_sub (b := 1) (by omega)]
  obtain ⟨M3, hM3⟩ : ∃ z, z = st M2 1 2 (nI (F.n - 1)) := ⟨_, rfl⟩
  rw [← hM3]
  have p0 : M3 1 2 = nI (F.n - 1) := by rw [hM3, st_at, upd_at]
  have p1 : M3 1 3 = nI F.b := by rw [hM3, st_at, upd_ne _ _ (by decide), n2]; exact h2
  have p2 : M3 1 4 = F.s := by rw [hM3, st_at, upd_ne _ _ (by decide), n2]; exact h3
  rw [p0, if_pos (inb_nI (show F.n - 1 < 8 by omega) (by decide)), ix_nI (by omega), st_ne _ _ _ (by decide), p1, c_dpb0 F.b (okF_b ok) p (by omega)]
  refine ⟨_, rfl, ?_, ?_, ?_, ?_, ?_, ?_⟩
  · refine eqx_st (eqx_st ?_ (by decide) _ _) (by decide) _ _
    rw [hM3]
    exact eqx_st (eqx_tr (eqx_mono a2 (by decide)) (eqx_mono b2 (by decide))) (by decide) _ _
  · rw [st_at, upd_ne _ _ (by decide), st_ne _ _ _ (by decide), p0]; rfl
  · rw [st_at, upd_at]; rfl
  · rw [st_at, upd_ne _ _ (by decide), st_ne _ _ _ (by decide), p2]; rfl
  · intro j hj
    show st (st M3 3 (F.n - 1) 0) 1 3 _ 3 j = nI (dpX F.x p j)
    rw [st_ne _ _ _ (by decide), st_at]
    unfold dpX
    by_cases e : j = F.n - 1
    · rw [e, upd_at, if_neg (by omega)]
      by_cases e7 : F.n - 1 < 7
      · rw [if_pos e7, (ok.2.2.1 (F.n - 1 + 1) (by omega)).2 (by omega)]; rfl
      · rw [if_neg e7]; rfl
    · rw [upd_ne _ _ e, hM3, st_ne _ _ _ (by decide), b3 j hj]
      by_cases c1 : j < p
      · rw [if_neg (by omega), if_pos c1]
      · rw [if_neg c1]
        by_cases c2 : j < F.n - 1
        · rw [if_pos (by omega), if_pos (by omega)]
        · rw [if_neg (by omega), (ok.2.2.1 j hj).2 (by omega)]
          by_cases c3 : j < 7
          · rw [if_pos c3, (ok.2.2.1 (j + 1) (by omega)).2 (by omega)]
          · rw [if_neg c3]
  · intro c hc
    show st (st M3 3 (F.n - 1) 0) 1 3 _ 2 c = oI (dpO F.o p c)
    rw [st_ne _ _ _ (by decide), st_ne _ _ _ (by decide), hM3, st_ne _ _ _ (by decide), b2 2 (by decide)]
    exact a3 c hc
def aDrp (x : Int32) (S : ST) : Int32 := if pcl S.F.n x = 0 then -1 else nI (S.F.n - 1)
def nDrp (x : Int32) (S : ST) : ST := if pcl S.F.n x = 0 then S else rcd S (dpF S.F (ix x))
theorem tc_drp {g : Nat} (hg : 5000 < g) (x : Int32) : TC (fn_X7_drop g x) (aDrp x) (nDrp x) := by
  intro M S h
  unfold fn_X7_drop aDrp nDrp
  rw [c_pcl h.2.1]
  by_cases c : pcl S.F.n x = 0
  · rw [if_pos c, if_pos c, if_pos c]; exact ⟨M, rfl, h, hiE_rf _⟩
  obtain ⟨p, hp, rfl⟩ := pcl_ex h.1.1.1 c
  have h8 := h.1.1.1
  rw [if_neg c, if_neg c, if_neg c, ix_nI (by omega)]
  obtain ⟨M1, a1, a2, a3⟩ := c_record h.1.2.1 h.2.2.1 h.2.1
  rw [a1]
  simp only [Option.bind_some]
  obtain ⟨M2, b1, b2, b3⟩ := c_remove hg (fC_eq h.2.1 (a2 _ (by decide)) (a2 _ (by decide)) (a2 _ (by decide))) h.1.1 hp
  rw [b1]
  simp only [Option.bind_some]
  obtain ⟨M3, d1, d2, d3, d4, d5⟩ := c_forget M2
  rw [d1]
  simp only [Option.bind_some]
  have jc := JC_chg h a2 a3 (fun a x y => b2 a (by simp; omega)) (okF_dp h.1.1 hp) b3 d2 d3 d4 d5
  rw [show M3 1 2 = nI (S.F.n - 1) from jc.2.1.1]
  exact ⟨M3, rfl, jc, hiE_tr (hiE_of a2 LR_lo) (hiE_tr (hiE_of b2 (by decide)) (hiE_of d2 (by decide)))⟩
theorem tm_drp {g : Nat} (hg : 5000 < g) (x : Int32) : TM (fn_X8_drop g x) (aDrp x) (nDrp x) := by
  intro M S ok h
  unfold fn_X8_drop aDrp nDrp
  rw [m_pcl ok.1.1 (fM_n h.1)]
  by_cases c : pcl S.F.n x = 0
  · rw [if_pos c, if_pos c, if_pos c]; exact ⟨M, rfl, h, loE_rf _⟩
  obtain ⟨p, hp, rfl⟩ := pcl_ex ok.1.1 c
  have h8 := ok.1.1
  rw [if_neg c, if_neg c, if_neg c, ix_nI (show p < 2 ^ 31 by omega)]
  obtain ⟨M1, a1, a2, a3, a4, a5, a6⟩ := m_records hg ok.2.1 h.2.1 h.1
  rw [a1]
  simp only [Option.bind_some]
  have key : ∃ M', lpN g (bd_X8_drop_16 (nI p)) ((0 : Int32), M1) = some M' ∧ (eqx [62] M1 M' ∧ hP M' (dpO S.F.o p) ∧ (∀ j, (j < 11 ∨ 227 ≤ j) → M' 62 j = M1 62 j)) := by
    refine lp_inv (fun i w => w.1 = nI i ∧ eqx [62] M1 w.2 ∧ (∀ c, c < 216 → w.2 62 (11 + c) = nI (if c < i then dpO S.F.o p c else S.F.o c)) ∧ (∀ j, (j < 11 ∨ 227 ≤ j) → w.2 62 j = M1 62 j)) _ 216 ?_ ?_ (by omega) ⟨rfl, eqx_rf _ _, fun c hc => by rw [if_neg (by omega)]; exact fM_o a4 c hc, fun _ _ => rfl⟩
    · rintro i ⟨w, N⟩ hi ⟨q1, q2, q3, q4⟩
      dsimp only at q1 q2 q3 q4
      subst q1
      have hoi := okF_o ok.1 i hi
      have ni : N 62 (11 + i) = nI (S.F.o i) := by rw [q3 i hi, if_neg (by omega)]
      have hat : fn_X8_at (nI i) N = some (oI (S.F.o i)) := by
        unfold fn_X8_at
        rw [show (11 : Int32) + nI i = nI (11 + i) from nI_add 11 i, if_pos (inb_nI (show 11 + i < 2270 by omega) (by decide)), ix_nI (by omega), ni]
        rfl
      simp only [bd_X8_drop_16, u2]
      rw [if_neg (show ¬ (216 : Int32) ≤ nI i from nI_ge (b := 216) hi (by decide)), hat]
      simp only [Option.bind_some]
      have fin : ∀ v, v = nI (dpO S.F.o p i) → ∃ s', jn_X8_drop_58 v ((11 : Int32) + nI i) (nI i) N = some (.inl s') ∧ s'.1 = nI (i + 1) ∧ eqx [62] M1 s'.2 ∧ (∀ c, c < 216 → s'.2 62 (11 + c) = nI (if c < i + 1 then dpO S.F.o p c else S.F.o c)) ∧ (∀ j, (j < 11 ∨ 227 ≤ j) → s'.2 62 j = M1 62 j) := by
        intro v hv
        unfold jn_X8_drop_58
        rw [show (11 : Int32) + nI i = nI (11 + i) from nI_add 11 i, if_pos (inb_nI (show 11 + i < 2270 by omega) (by decide)), ix_nI (by omega), inc]
        simp only [bv]
        refine ⟨_, rfl, rfl, eqx_st q2 (by decide) _ _, ?_, ?_⟩
        · intro c hc
          dsimp only
          rw [st_at]
          by_cases e : c = i
          · rw [e, upd_at, if_pos (by omega), hv]
          · rw [upd_ne _ _ (by omega), q3 c hc]
            by_cases e2 : c < i
            · rw [if_pos e2, if_pos (by omega)]
            · rw [if_neg e2, if_neg (by omega)]
        · intro j hj
          dsimp only
          rw [st_at, upd_ne _ _ (by omega)]
          exact q4 j hj
      by_cases c1 : S.F.o i = p + 1
      · rw [if_pos ((oI_eq (by omega) (by omega)).mpr c1)]
        exact fin _ (by unfold dpO; rw [if_pos c1]; rfl)
      · rw [if_neg (fun q => c1 ((oI_eq (by omega) (by omega)).mp q))]
        by_cases c2 : S.F.o i ≤ p + 1
        · rw [if_pos ((oI_le (by omega) (by omega)).mpr c2)]
          exact fin _ (by unfold dpO; rw [if_neg c1, if_pos c2, oI_add])
        · rw [if_neg (fun q => c2 ((oI_le (by omega) (by omega)).mp q))]
          exact fin _ (by unfold dpO; rw [if_neg c1, if_neg c2]; exact nI_sub (b := 1) (by omega))
    · rintro ⟨w, N⟩ ⟨q1, q2, q3, q4⟩
      dsimp only at q1 q2 q3 q4
      subst q1
      refine ⟨N, ?_, q2, fun c hc => by rw [q3 c hc, if_pos hc], q4⟩
      simp only [bd_X8_drop_16, u2]
      rw [if_pos (by decide)]
  obtain ⟨M2, b1, b2, b3, b4⟩ := key
  rw [b1]
  simp only [Option.bind_some, u1]
  have x2 : ∀ j, j < 8 → M2 62 (3 + j) = nI (S.F.x j) := fun j hj => by rw [b4 _ (by omega)]; exact fM_x a4 hj
  have key2 : ∃ M', lpN g bd_X8_drop_67 (nI p, M2) = some M' ∧ (eqx [62] M2 M' ∧ (∀ j, j < 8 → M' 62 (3 + j) = nI (if p ≤ j ∧ j < 7 then S.F.x (j + 1) else S.F.x j)) ∧ (∀ j, (j < 3 ∨ 11 ≤ j) → M' 62 j = M2 62 j)) := by
    refine lp_inv (fun t w => w.1 = nI (p + t) ∧ eqx [62] M2 w.2 ∧ (∀ j, j < 8 → w.2 62 (3 + j) = nI (if p ≤ j ∧ j < p + t then S.F.x (j + 1) else S.F.x j)) ∧ (∀ j, (j < 3 ∨ 11 ≤ j) → w.2 62 j = M2 62 j)) _ (7 - p) ?_ ?_ (by omega) ⟨rfl, eqx_rf _ _, fun j hj => by rw [if_neg (by omega)]; exact x2 j hj, fun _ _ => rfl⟩
    · rintro t ⟨w, N⟩ ht ⟨q1, q2, q3, q4⟩
      dsimp only at q1 q2 q3 q4
      subst q1
      simp only [bd_X8_drop_67, u2]
      rw [inc, if_neg (show ¬ (8 : Int32) ≤ nI (p + t + 1) from nI_ge (b := 8) (by omega) (by decide)), show (3 : Int32) + nI (p + t) = nI (3 + (p + t)) from nI_add 3 _, inc, if_pos (inb_nI (show 3 + (p + t) + 1 < 2270 by omega) (by decide)), if_pos (inb_nI (show 3 + (p + t) < 2270 by omega) (by decide)), ix_nI (by omega), ix_nI (by omega)]
      simp only [bv]
      refine ⟨_, rfl, by rw [Nat.add_assoc], eqx_st q2 (by decide) _ _, ?_, ?_⟩
      · intro j hj
        dsimp only
        rw [st_at]
        by_cases e : j = p + t
        · rw [e, upd_at, if_pos (by omega), show 3 + (p + t) + 1 = 3 + (p + t + 1) by omega, q3 _ (by omega), if_neg (by omega)]
        · rw [upd_ne _ _ (by omega), q3 j hj]
          by_cases e2 : p ≤ j ∧ j < p + t
          · rw [if_pos e2, if_pos (by omega)]
          · rw [if_neg e2, if_neg (by omega)]
      · intro j hj
        dsimp only
        rw [st_at, upd_ne _ _ (by omega)]
        exact q4 j hj
    · rintro ⟨w, N⟩ ⟨q1, q2, q3, q4⟩
      dsimp only at q1 q2 q3 q4
      subst q1
      refine ⟨N, ?_, q2, fun j hj => by rw [q3 j hj, show p + (7 - p) = 7 by omega], q4⟩
      simp only [bd_X8_drop_67, u2]
      rw [inc, show p + (7 - p) + 1 = 8 by omega, if_pos (by decide)]
  obtain ⟨M3, d1, d2, d3, d4⟩ := key2
  rw [d1]
  simp only [Option.bind_some, u1, bv]
  have e0 : ix (0 : Int32) = 0 := rfl
  have e1 : ix (1 : Int32) = 1 := rfl
  have e10 : ix (10 : Int32) = 10 := rfl
  rw [e0, e1, e10]
  have z1 : st M3 62 10 0 62 1 = nI S.F.b := by rw [st_at, upd_ne _ _ (by decide), d4 _ (by omega), b4 _ (by omega)]; exact fM_b a4
  rw [z1, m_dpb0 S.F.b (okF_b ok.1) p (by omega)]
  have z0 : st (st M3 62 10 0) 62 1 (nI (dpb S.F.b p)) 62 0 = nI S.F.n := by rw [st_at, upd_ne _ _ (by decide), st_at, upd_ne _ _ (by decide), d4 _ (by omega), b4 _ (by omega)]; exact fM_n a4
  rw [z0, show nI S.F.n - 1 = nI (S.F.n - 1) from nI_sub (b := 1) (by omega)]
  obtain ⟨M4, hM4⟩ : ∃ z, z = st (st (st M3 62 10 0) 62 1 (nI (dpb S.F.b p))) 62 0 (nI (S.F.n - 1)) := ⟨_, rfl⟩
  rw [← hM4]
  have e4 : eqx [62] M3 M4 := by rw [hM4]; exact eqx_st (eqx_st (eqx_st (eqx_rf _ _) (by decide) _ _) (by decide) _ _) (by decide) _ _
  have y : ∀ j, j ≠ 0 → j ≠ 1 → j ≠ 10 → M4 62 j = M3 62 j := fun j h0 h1 h10 => by rw [hM4, st_at, upd_ne _ _ h0, st_at, upd_ne _ _ h1, st_at, upd_ne _ _ h10]
  have f4 : fM M4 0 (dpF S.F p) := by
    refine fM_mk ?_ ?_ ?_ ?_ ?_
    · rw [hM4, st_at, upd_at]; rfl
    · rw [hM4, st_at, upd_ne _ _ (by decide), st_at, upd_at]; rfl
    · rw [y 2 (by decide) (by decide) (by decide), d4 _ (by omega), b4 _ (by omega)]; exact fM_s (F := S.F) a4
    · intro j hj
      show M4 62 (3 + j) = nI (dpX S.F.x p j)
      unfold dpX
      by_cases e : j = 7
      · subst e
        rw [if_neg (by omega), if_neg (by omega), hM4, st_at, upd_ne _ _ (by decide), st_at, upd_ne _ _ (by decide), st_at, upd_at]; rfl
      · rw [y _ (by omega) (by omega) (by omega), d3 j hj]
        by_cases c1 : j < p
        · rw [if_neg (by omega), if_pos c1]
        · rw [if_pos (by omega), if_neg c1, if_pos (by omega)]
    · intro c hc
      rw [y _ (by omega) (by omega) (by omega), d4 _ (by omega)]
      exact b3 c hc
  have far : ∀ j, 227 ≤ j → M4 62 j = M1 62 j := fun j hj => by rw [y _ (by omega) (by omega) (by omega), d4 _ (by omega), b4 _ (by omega)]
  have e61 : M4 61 = M1 61 := (e4 _ (by decide)).trans ((d2 _ (by decide)).trans (b2 _ (by decide)))
  have e69 : M4 69 = M1 69 := (e4 _ (by decide)).trans ((d2 _ (by decide)).trans (b2 _ (by decide)))
  obtain ⟨M5, k1, k2, k3⟩ := JM_lay (M := M4) (S := rcd S (dpF S.F p)) hg (okF_dp ok.1 hp) f4 ⟨by rw [e61]; exact a3.1, fun t ht => fM_far (by omega) (a3.2 t ht) far⟩ (by
    rw [e61, e69, a2 69 (by decide), a5 9 (by decide), a5 10 (by decide)]
    exact h.2.2.1)
  rw [k1]
  simp only [Option.bind_some]
  rw [show M5 62 0 = nI (S.F.n - 1) from fM_n k3.1]
  exact ⟨M5, rfl, k3, loE_tr (loE_of a2 (by decide)) (loE_tr (loE_of b2 (by decide)) (loE_tr (loE_of d2 (by decide)) (loE_tr (loE_of e4 (by decide)) (loE_of k2 (by decide)))))⟩
