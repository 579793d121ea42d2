theorem m_cells {M : Mem} {o : Nat → Nat} {p g : Nat} (hg : 5000 < g) (hp : p < 8) (ho : ∀ c, c < 216 → o c ≤ 8) (h0 : hP M o) : fn_X8_cellsOf g (nI p) M = some (nI (ceN o p 216)) := by
  unfold fn_X8_cellsOf
  refine lp_forb (fun c => (nI (ceN o p c), nI c)) 216 (nI (ceN o p 216)) rfl (by omega) ?_ ?_ rfl
  · intro c hc
    have hoc := ho c hc
    simp only [bd_X8_cellsOf_4, u2]
    rw [if_neg (show ¬ (216 : Int32) ≤ nI c from nI_ge (b := 216) hc (by decide)), m_at h0 hc]
    simp only [Option.bind_some]
    have es : ceN o p (c + 1) = ceN o p c + (if (o c == p + 1) = true then 1 else 0) := rfl
    rw [es]
    by_cases e : o c = p + 1
    · rw [if_pos ((oI_eq (by omega) (by omega)).mpr e)]
      simp only [jn_X8_cellsOf_26, bv]
      rw [inc, inc, if_pos (by simp [e])]
    · rw [if_neg (fun z => e ((oI_eq (by omega) (by omega)).mp z))]
      simp only [jn_X8_cellsOf_26, bv]
      rw [inc, if_neg (by simp [e]), show nI (ceN o p c) + 0 = nI (ceN o p c) from nI_add _ 0]; rfl
  · simp only [bd_X8_cellsOf_4, u2]
    rw [if_pos (by decide)]
theorem grN_36 (o : Nat → Nat) (p : Nat) : grN o p 216 = fb_ct (fun c => o c == p + 1) 36 := by
  unfold grN
  rw [show 216 = 36 + 180 from rfl, fb_ct_split]
  have : fb_ct (fun k => (fun c => decide (c < 36) && o c == p + 1) (36 + k)) 180 = 0 := by
    rw [fb_ct_zero]
    intro k _
    dsimp only
    rw [decide_eq_false (by omega)]; rfl
  rw [this, Nat.add_zero]
  apply fb_ct_cong
  intro k hk
  rw [decide_eq_true hk]; rfl
theorem m_ground {M : Mem} {o : Nat → Nat} {p g : Nat} (hg : 5000 < g) (hp : p < 8) (ho : ∀ c, c < 216 → o c ≤ 8) (h0 : hP M o) : fn_X8_groundOf g (nI p) M = some (nI (grN o p 216)) := by
  rw [grN_36]
  unfold fn_X8_groundOf
  refine lp_forb (fun c => (nI (fb_ct (fun c => o c == p + 1) c), nI c)) 36 (nI (fb_ct (fun c => o c == p + 1) 36)) rfl (by omega) ?_ ?_ rfl
  · intro c hc
    have hoc := ho c (by omega)
    simp only [bd_X8_groundOf_4, u2]
    rw [if_neg (show ¬ (36 : Int32) ≤ nI c from nI_ge (b := 36) hc (by decide)), m_at h0 (by omega), fb_ct_succ]
    simp only [Option.bind_some]
    by_cases e : o c = p + 1
    · rw [if_pos ((oI_eq (by omega) (by omega)).mpr e)]
      simp only [jn_X8_groundOf_25, bv]
      rw [inc, inc, if_pos (by simp [e])]
    · rw [if_neg (fun z => e ((oI_eq (by omega) (by omega)).mp z))]
      simp only [jn_X8_groundOf_25, bv]
      rw [inc, if_neg (by simp [e]), show ∀ a, nI a + 0 = nI a from fun a => nI_add a 0]; rfl
  · simp only [bd_X8_groundOf_4, u2]
    rw [if_pos (by decide)]
theorem m_many {M : Mem} {o : Nat → Nat} {g : Nat} (hg : 5000 < g) (ho : ∀ c, c < 216 → o c ≤ 8) (h0 : hP M o) : fn_X8_cellMany g M = some (nI (alN o 216)) := by
  unfold fn_X8_cellMany
  refine lp_forb (fun c => (nI (alN o c), nI c)) 216 (nI (alN o 216)) rfl (by omega) ?_ ?_ rfl
  · intro c hc
    have hoc := ho c hc
    have es : alN o (c + 1) = alN o c + (if (o c != 0) = true then 1 else 0) := rfl
    simp only [bd_X8_cellMany_4, u2]
    rw [if_neg (show ¬ (216 : Int32) ≤ nI c from nI_ge (b := 216) hc (by decide)), m_at h0 hc, es]
    simp only [Option.bind_some]
    by_cases e : o c = 0
    · rw [if_pos ((oI_lt0 (by omega)).mpr e)]
      simp only [jn_X8_cellMany_25, bv]
      rw [inc, if_neg (by simp [e]), show ∀ a, nI a + 0 = nI a from fun a => nI_add a 0]; rfl
    · rw [if_neg (fun z => e ((oI_lt0 (by omega)).mp z))]
      simp only [jn_X8_cellMany_25, bv]
      rw [inc, inc, if_pos (by simp [e])]
  · simp only [bd_X8_cellMany_4, u2]
    rw [if_pos (by decide)]
def loB (o : Nat → Nat) (p a i : Nat) : Int32 := if loN o p a i = 6 then -9 else nI (loN o p a i)
def hiB (o : Nat → Nat) (p a i : Nat) : Int32 := if hiN o p a i = 0 then -9 else oI (hiN o p a i)
theorem end_cd {c a : Nat} (hc : c < 216) (ha : a < 3) {T : Type} (f : Int32 → T) : (if nI a = 0 then f (rm (nI c) 6) else if nI a = 1 then f (rm (nI c / 6) 6) else f (nI c / 36)) = f (nI (cd c a)) := by
  have h := (cd_eq0 c hc a ha).1
  unfold fn_X7_coordinate at h
  rw [← h]
  split
  · rfl
  · split <;> rfl
theorem m_end {M : Mem} {o : Nat → Nat} {p a g : Nat} (b : Bool) (hg : 5000 < g) (hp : p < 8) (ha : a < 3) (ho : ∀ c, c < 216 → o c ≤ 8) (h0 : hP M o) : fn_X8_end g (nI p) (nI a) (if b then 1 else 0) M = some (if b then hiB o p a 216 else loB o p a 216) := by
  unfold fn_X8_end
  refine lp_forb (fun c => ((if b then hiB o p a c else loB o p a c), nI c)) 216 _ ?_ (by omega) ?_ ?_ rfl
  · cases b <;> rfl
  · intro c hc
    have hoc := ho c hc
    have hcd := cd_lt hc ha
    simp only [bd_X8_end_7, u2]
    rw [if_neg (show ¬ (216 : Int32) ≤ nI c from nI_ge (b := 216) hc (by decide)), end_cd hc ha (fun s => jn_X8_end_48 s (if b = true then hiB o p a c else loB o p a c) (nI c) (nI p) (if b = true then 1 else 0) M)]
    unfold jn_X8_end_48
    rw [m_at h0 hc]
    simp only [Option.bind_some]
    by_cases e : o c = p + 1
    · rw [if_pos ((oI_eq (by omega) (by omega)).mpr e)]
      cases b
      · have hl := loN_le o p a c
        have es : loN o p a (c + 1) = min (loN o p a c) (cd c a) := by
          conv => lhs; unfold loN
          rw [if_pos e]
        simp only [Bool.false_eq_true, if_false, if_true]
        unfold loB
        rw [es]
        by_cases q : loN o p a c = 6
        · rw [if_pos q, if_pos rfl, if_neg (show ¬ min (loN o p a c) (cd c a) = 6 by omega), q, Nat.min_eq_right (by omega)]
          simp [jn_X8_end_88, jn_X8_end_93, jn_X8_end_107, inc]
        · rw [if_neg q, if_neg (m9_ne _ (by omega)), if_neg (show ¬ min (loN o p a c) (cd c a) = 6 by omega)]
          by_cases w : loN o p a c ≤ cd c a
          · rw [if_pos ((nI_leI (by omega) (by omega)).mpr w), Nat.min_eq_left w]
            simp [jn_X8_end_92, jn_X8_end_93, jn_X8_end_107, inc]
          · rw [if_neg (fun z => w ((nI_leI (by omega) (by omega)).mp z)), Nat.min_eq_right (by omega)]
            simp [jn_X8_end_88, jn_X8_end_93, jn_X8_end_107, inc]
      · have hh := hiN_le o p ha c (by omega)
        have es : hiN o p a (c + 1) = max (hiN o p a c) (cd c a + 1) := by
          conv => lhs; unfold hiN
          rw [if_pos e]
        simp only [if_true]
        unfold hiB
        rw [es]
        cases q : hiN o p a c with
        | zero =>
          rw [if_pos rfl, if_pos rfl, if_neg (show ¬ max 0 (cd c a + 1) = 0 by omega), Nat.max_eq_right (by omega), oI_s]
          simp [jn_X8_end_88, jn_X8_end_93, jn_X8_end_107, inc]
        | succ y =>
          rw [q] at hh
          rw [if_neg (show ¬ y + 1 = 0 by omega), oI_s, if_neg (m9_ne y (by omega)), if_neg (show ¬ (1 : Int32) = 0 by decide), if_neg (show ¬ max (y + 1) (cd c a + 1) = 0 by omega)]
          by_cases w : cd c a ≤ y
          · rw [if_pos ((nI_leI (by omega) (by omega)).mpr w), Nat.max_eq_left (by omega), oI_s]
            simp [jn_X8_end_92, jn_X8_end_93, jn_X8_end_107, inc]
          · rw [if_neg (fun z => w ((nI_leI (by omega) (by omega)).mp z)), Nat.max_eq_right (by omega), oI_s]
            simp [jn_X8_end_88, jn_X8_end_93, jn_X8_end_107, inc]
    · rw [if_neg (fun z => e ((oI_eq (by omega) (by omega)).mp z))]
      have es1 : loN o p a (c + 1) = loN o p a c := by
        conv => lhs; unfold loN
        rw [if_neg e]
      have es2 : hiN o p a (c + 1) = hiN o p a c := by
        conv => lhs; unfold hiN
        rw [if_neg e]
      unfold loB hiB
      rw [es1, es2]
      simp [jn_X8_end_92, jn_X8_end_93, jn_X8_end_107, inc]
  · simp only [bd_X8_end_7, u2]
    rw [if_pos (by decide)]
theorem loN_lt (o : Nat → Nat) {p a c : Nat} (ha : a < 3) (e : o c = p + 1) : ∀ i, c < i → i ≤ 216 → loN o p a i < 6
  | 0, h, _ => by omega
  | i + 1, h, hi => by
    unfold loN
    by_cases q : c = i
    · subst q
      have := cd_lt (c := c) (by omega) ha
      rw [if_pos e]; omega
    · have := loN_lt o ha e i (by omega) (by omega)
      split
      · omega
      · exact this
theorem hiN_pos (o : Nat → Nat) {p a c : Nat} (e : o c = p + 1) : ∀ i, c < i → 0 < hiN o p a i
  | 0, h => by omega
  | i + 1, h => by
    unfold hiN
    by_cases q : c = i
    · subst q
      rw [if_pos e]; omega
    · have := hiN_pos o (a := a) e i (by omega)
      split
      · omega
      · exact this
theorem loB_eq {o : Nat → Nat} {p a c : Nat} (ha : a < 3) (hc : c < 216) (e : o c = p + 1) : loB o p a 216 = nI (loN o p a 216) := by
  unfold loB
  have := loN_lt o ha e 216 hc (by omega)
  rw [if_neg (by omega)]
theorem hiB_eq {o : Nat → Nat} {p a c : Nat} (hc : c < 216) (e : o c = p + 1) : hiB o p a 216 = oI (hiN o p a 216) := by
  unfold hiB
  have := hiN_pos o (a := a) e 216 hc
  rw [if_neg (by omega)]
