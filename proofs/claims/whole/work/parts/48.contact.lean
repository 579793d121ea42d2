/-! ===== contacts ===== -/
theorem sm_mul (f : Nat → Nat) (b : Nat) : ∀ a, fb_sm f (a * b) = fb_sm (fun u => fb_sm (fun v => f (b * u + v)) b) a
  | 0 => by rw [Nat.zero_mul]; rfl
  | a + 1 => by
    rw [Nat.succ_mul, fb_sm_split, fb_sm_succ, sm_mul f b a]
    congr 1
    apply fb_sm_cong
    intro k _
    rw [Nat.mul_comm a b]
theorem sm_z (n : Nat) : fb_sm (fun _ => 0) n = 0 := by rw [fb_sm_const, Nat.mul_zero]
theorem sm_comm (f : Nat → Nat → Nat) (b : Nat) : ∀ a, fb_sm (fun u => fb_sm (fun v => f u v) b) a = fb_sm (fun v => fb_sm (fun u => f u v) a) b
  | 0 => (sm_z b).symm
  | a + 1 => by
    rw [fb_sm_succ, sm_comm f b a, ← fb_sm_add]
    rfl
theorem sm_line (f : Nat → Nat) {a : Nat} (ha : a < 3) : fb_sm f 216 = fb_sm (fun l => fb_sm (fun t => f (lc (36 * a + l) t)) 6) 36 := by
  have c : a = 0 ∨ a = 1 ∨ a = 2 := by omega
  rcases c with rfl | rfl | rfl
  · rw [show 216 = 36 * 6 from rfl, sm_mul]
    apply fb_sm_cong
    intro l hl
    apply fb_sm_cong
    intro t ht
    congr 1
    unfold lc lst sd
    rw [show (36 * 0 + l) / 36 = 0 by omega, if_pos rfl, if_pos rfl]; omega
  · rw [show 216 = 6 * 36 from rfl, sm_mul, show 36 = 6 * 6 from rfl, sm_mul]
    apply fb_sm_cong
    intro z hz
    rw [sm_mul, sm_comm]
    apply fb_sm_cong
    intro x hx
    apply fb_sm_cong
    intro t ht
    congr 1
    unfold lc lst sd
    rw [show (6 * 6 * 1 + (6 * z + x)) / 36 = 1 by omega]
    simp only [Nat.one_ne_zero, if_false, if_true]
    omega
  · rw [show 216 = 6 * 36 from rfl, sm_mul, sm_comm]
    apply fb_sm_cong
    intro l hl
    apply fb_sm_cong
    intro t ht
    congr 1
    unfold lc lst sd
    rw [show (36 * 2 + l) / 36 = 2 by omega]
    simp only [show ¬ (2 : Nat) = 0 by decide, show ¬ (2 : Nat) = 1 by decide, if_false]
    omega
def ce (o : Nat → Nat) (a b c d : Nat) : Nat := if nb c d < 216 ∧ o c = a + 1 ∧ o (nb c d) = b + 1 then 1 else 0
def CR (o : Nat → Nat) (a b : Nat) : Nat := fb_sm (fun c => fb_sm (fun d => ce o a b c d) 6) 216
theorem CR_CL (o : Nat → Nat) (a b : Nat) : CR o a b = CL o a b := by
  unfold CR CL
  have e1 : ∀ c, fb_sm (fun d => ce o a b c d) 6 = fb_sm (fun x => ce o a b c (2 * x) + ce o a b c (2 * x + 1)) 3 := by
    intro c
    simp only [fb_sm, show 2 * 0 = 0 from rfl, show 2 * 1 = 2 from rfl, show 2 * 2 = 4 from rfl, show 0 + 1 = 1 from rfl, show 2 + 1 = 3 from rfl, show 4 + 1 = 5 from rfl]
    omega
  rw [fb_sm_cong (fun c _ => e1 c), sm_comm, show 108 = 3 * 36 from rfl, sm_mul]
  apply fb_sm_cong
  intro x hx
  rw [sm_line _ hx]
  apply fb_sm_cong
  intro l hl
  have hL : 36 * x + l < 108 := by omega
  have hd : (36 * x + l) / 36 = x := by omega
  generalize hLe : 36 * x + l = L at *
  have hn := lc_nb0 L hL
  have hm := lc_nb1 L hL
  rw [hd] at hn hm
  have lt := lc_lt0 L hL
  unfold lnC
  have w0 : wl o L 0 = 0 := rfl
  have ws : ∀ t, wl o L (t + 1) = o (lc L t) := fun t => by unfold wl; rw [if_neg (by omega)]; rfl
  have c0 : ∀ t, t < 5 → ce o a b (lc L t) (2 * x) = if o (lc L t) = a + 1 ∧ o (lc L (t + 1)) = b + 1 then 1 else 0 := by
    intro t ht
    unfold ce
    rw [(hn t ht).1]
    simp [lt (t + 1) (by omega)]
  have c1 : ∀ t, t < 5 → ce o a b (lc L (t + 1)) (2 * x + 1) = if o (lc L t) = b + 1 ∧ o (lc L (t + 1)) = a + 1 then 1 else 0 := by
    intro t ht
    unfold ce
    rw [(hn t ht).2]
    simp [lt t (by omega), and_comm]
  have c5 : ce o a b (lc L 5) (2 * x) = 0 := by unfold ce; rw [hm.1]; simp
  have c6 : ce o a b (lc L 0) (2 * x + 1) = 0 := by unfold ce; rw [hm.2]; simp
  simp only [fb_sm]
  rw [c0 0 (by omega), c0 1 (by omega), c0 2 (by omega), c0 3 (by omega), c0 4 (by omega), c5, c6, c1 0 (by omega), c1 1 (by omega), c1 2 (by omega), c1 3 (by omega), c1 4 (by omega), ws, ws, ws, ws, ws, w0]
  simp only [show ¬ (0 = a + 1) by omega, show ¬ (0 = b + 1) by omega, false_and, if_false]
  generalize (if o (lc L 0) = a + 1 ∧ o (lc L (0 + 1)) = b + 1 then 1 else 0) = x1
  generalize (if o (lc L 1) = a + 1 ∧ o (lc L (1 + 1)) = b + 1 then 1 else 0) = x2
  generalize (if o (lc L 2) = a + 1 ∧ o (lc L (2 + 1)) = b + 1 then 1 else 0) = x3
  generalize (if o (lc L 3) = a + 1 ∧ o (lc L (3 + 1)) = b + 1 then 1 else 0) = x4
  generalize (if o (lc L 4) = a + 1 ∧ o (lc L (4 + 1)) = b + 1 then 1 else 0) = x5
  generalize (if o (lc L 0) = b + 1 ∧ o (lc L (0 + 1)) = a + 1 then 1 else 0) = y1
  generalize (if o (lc L 1) = b + 1 ∧ o (lc L (1 + 1)) = a + 1 then 1 else 0) = y2
  generalize (if o (lc L 2) = b + 1 ∧ o (lc L (2 + 1)) = a + 1 then 1 else 0) = y3
  generalize (if o (lc L 3) = b + 1 ∧ o (lc L (3 + 1)) = a + 1 then 1 else 0) = y4
  generalize (if o (lc L 4) = b + 1 ∧ o (lc L (4 + 1)) = a + 1 then 1 else 0) = y5
  omega
theorem CL_le (o : Nat → Nat) (a b : Nat) : CL o a b ≤ 108 * 12 := by
  unfold CL
  apply fb_sm_bound
  intro L _
  unfold lnC
  refine Nat.le_trans (fb_sm_bound (c := 2) ?_) (by decide)
  intro t _
  split <;> split <;> omega
theorem m_contact {M : Mem} {o : Nat → Nat} {a b g : Nat} (hg : 5000 < g) (ha : a < 8) (hb : b < 8) (ho : ∀ c, c < 216 → o c ≤ 8) (h0 : hP M o) : fn_X8_contactOf g (nI a) (nI b) M = some (nI (CL o a b)) := by
  rw [← CR_CL]
  unfold fn_X8_contactOf
  refine lp_forb (fun c => (nI (fb_sm (fun c => fb_sm (fun d => ce o a b c d) 6) c), nI c)) 216 (nI (CR o a b)) rfl (by omega) ?_ ?_ rfl
  · intro c hc
    have hoc := ho c hc
    simp only [bd_X8_contactOf_5, u2]
    rw [if_neg (show ¬ (216 : Int32) ≤ nI c from nI_ge (b := 216) hc (by decide)), fb_sm_succ]
    by_cases e : o c = a + 1
    · refine lp_forb (fun d => (nI (fb_sm (fun c => fb_sm (fun d => ce o a b c d) 6) c + fb_sm (fun d => ce o a b c d) d), nI d)) 6 (nI (fb_sm (fun c => fb_sm (fun d => ce o a b c d) 6) c + fb_sm (fun d => ce o a b c d) 6)) rfl (by omega) ?_ ?_ (by rw [← inc]; rfl)
      · intro d hd
        simp only [bd_X8_contactOf_16, u2]
        rw [if_neg (show ¬ (6 : Int32) ≤ nI d from nI_ge (b := 6) hd (by decide)), m_at h0 hc]
        simp only [Option.bind_some]
        rw [if_pos ((oI_eq (by omega) (by omega)).mpr e), m_nb hc hd]
        simp only [bv]
        rw [fb_sm_succ]
        by_cases q : nb c d < 216
        · have hon := ho _ q
          rw [nbI_in q, if_neg (nI_nn (by omega)), m_at h0 q]
          simp only [Option.bind_some]
          by_cases e2 : o (nb c d) = b + 1
          · rw [if_pos ((oI_eq (by omega) (by omega)).mpr e2)]
            unfold jn_X8_contactOf_63 ce
            rw [if_pos ⟨q, e, e2⟩, inc, inc]; rfl
          · rw [if_neg (fun z => e2 ((oI_eq (by omega) (by omega)).mp z))]
            unfold jn_X8_contactOf_62 jn_X8_contactOf_63 ce
            rw [if_neg (fun z => e2 z.2.2), inc]
            simp [bv]
        · rw [nbI_m1 q, if_pos (by decide)]
          unfold jn_X8_contactOf_62 jn_X8_contactOf_63 ce
          rw [if_neg (fun z => q z.1), inc]
          simp [bv]
      · simp only [bd_X8_contactOf_16, u2]
        rw [if_pos (by decide)]
    · have hz : fb_sm (fun d => ce o a b c d) 6 = 0 := by
        have : ∀ d, ce o a b c d = 0 := fun d => by unfold ce; rw [if_neg (fun z => e z.2.1)]
        simp [fb_sm, this]
      rw [hz, Nat.add_zero]
      refine lp_forb (fun d => (nI (fb_sm (fun c => fb_sm (fun d => ce o a b c d) 6) c), nI d)) 0 (nI (fb_sm (fun c => fb_sm (fun d => ce o a b c d) 6) c)) rfl (by omega) (fun k hk => by omega) ?_ (by rw [← inc]; rfl)
      simp only [bd_X8_contactOf_16, u2]
      rw [if_neg (by decide), m_at h0 hc]
      simp only [Option.bind_some]
      rw [if_neg (fun z => e ((oI_eq (by omega) (by omega)).mp z))]
  · simp only [bd_X8_contactOf_5, u2]
    rw [if_pos (by decide)]
    rfl
theorem CL_zero (o : Nat → Nat) {p q : Nat} (hn : p ≠ q) : CL o p q = 0 ↔ tL o p q = false := by
  unfold CL tL
  rw [ne_of q p (by omega), Bool.true_and]
  constructor
  · intro h
    rw [Bool.eq_false_iff, ne_eq, anyB_iff]
    rintro ⟨L, hL, h1⟩
    have h2 := fb_sm_zero h L hL
    unfold lnC at h2
    unfold lnT at h1
    rw [anyB_iff] at h1
    obtain ⟨t, ht, h1⟩ := h1
    have h3 := fb_sm_zero h2 t ht
    simp only [Bool.or_eq_true, Bool.and_eq_true, beq_iff_eq] at h1
    rcases h1 with h1 | h1
    · rw [if_pos h1] at h3; omega
    · rw [if_pos h1] at h3; omega
  · intro h
    rw [Bool.eq_false_iff, ne_eq, anyB_iff] at h
    rw [fb_sm_cong (g := fun _ => 0) ?_, sm_z]
    intro L hL
    unfold lnC
    rw [fb_sm_cong (g := fun _ => 0) ?_, sm_z]
    intro t ht
    have h1 : ¬ (lnT o L p q 6 = true) := fun z => h ⟨L, hL, z⟩
    unfold lnT at h1
    rw [anyB_iff] at h1
    have h2 : ¬ ((wl o L t == p + 1 && o (lc L t) == q + 1 || wl o L t == q + 1 && o (lc L t) == p + 1) = true) := fun z => h1 ⟨t, ht, z⟩
    simp only [Bool.or_eq_true, Bool.and_eq_true, beq_iff_eq, not_or] at h2
    rw [if_neg h2.1, if_neg h2.2]
theorem m_CTok {M : Mem} {o : Nat → Nat} {n g : Nat} (hg : 5000 < g) (hn : n ≤ 8) (ho : ∀ c, c < 216 → o c ≤ 8) (h0 : hP M o) : CTok g M (AO n o) := by
  intro p q hp hq hne
  have hp : p < n := hp
  have hq : q < n := hq
  have := CL_le o p q
  refine ⟨CL o p q, by omega, m_contact hg (by omega) (by omega) ho h0, ?_⟩
  rw [CL_zero o hne]
  show _ ↔ (msk (tL o p) 8).testBit q = false
  rw [msk_bit, decide_eq_true (show q < 8 by omega), Bool.true_and]
