/-! ===== shift, ifShift ===== -/
def opp (d : Nat) : Nat := if d % 2 = 0 then d + 1 else d - 1
theorem opp_lt0 : ∀ d, d < 6 → opp d < 6 := by decide
theorem nb_op0 : ∀ c, c < 216 → ∀ d, d < 6 → if nb c d < 216 then nb (nb c d) (opp d) = c else True := by decide +kernel
theorem nb_op1 : ∀ c, c < 216 → ∀ d, d < 6 → if nb c (opp d) < 216 then nb (nb c (opp d)) d = c ∧ (if d % 2 = 0 then nb c (opp d) < c else c < nb c (opp d)) else True := by decide +kernel
theorem nb_op {c d : Nat} (hc : c < 216) (hd : d < 6) (h : nb c d < 216) : nb (nb c d) (opp d) = c := by
  have := nb_op0 c hc d hd
  rwa [if_pos h] at this
theorem nb_po {c d : Nat} (hc : c < 216) (hd : d < 6) (h : nb c (opp d) < 216) : nb (nb c (opp d)) d = c ∧ (if d % 2 = 0 then nb c (opp d) < c else c < nb c (opp d)) := by
  have := nb_op1 c hc d hd
  rwa [if_pos h] at this
def bdC (o : Nat → Nat) (p d c : Nat) : Bool := o c == p + 1 && !(decide (nb c d < 216) && (o (nb c d) == 0 || o (nb c d) == p + 1))
def cmv (o : Nat → Nat) (p d : Nat) : Bool := !anyB (bdC o p d) 216
theorem cmv_at {o : Nat → Nat} {p d : Nat} (h : cmv o p d = true) {c : Nat} (hc : c < 216) (e : o c = p + 1) : nb c d < 216 ∧ (o (nb c d) = 0 ∨ o (nb c d) = p + 1) := by
  unfold cmv at h
  rw [Bool.not_eq_true'] at h
  have h2 : bdC o p d c = false := by
    cases q : bdC o p d c
    · rfl
    · have := (anyB_iff (bdC o p d) 216).mpr ⟨c, hc, q⟩
      rw [h] at this; cases this
  unfold bdC at h2
  simp only [e, beq_self_eq_true, Bool.true_and, Bool.not_eq_false', Bool.and_eq_true, decide_eq_true_eq, Bool.or_eq_true, beq_iff_eq] at h2
  exact h2
theorem c_can {M : Mem} {k p d g : Nat} {o : Nat → Nat} (hg : 5000 < g) (h0 : hO M k o) (ho : ∀ c, c < 216 → o c ≤ 8) (hp : p < 8) (hd : d < 6) : fn_X1_canMove g k (nI p) (nI d) M = some (if cmv o p d then 1 else 0) := by
  unfold fn_X1_canMove cmv
  rw [← first_any]
  have bd : ∀ c, c < 216 → bd_X1_canMove_2 k (nI p) (nI d) M (nI c) = if bdC o p d c then some (.inr (.inr 0)) else some (.inl (nI (c + 1))) := by
    intro c hc
    have hoc := ho c hc
    simp only [bd_X1_canMove_2, u1]
    rw [if_neg (show ¬ (216 : Int32) ≤ nI c from nI_ge (b := 216) hc (by decide)), if_pos (inb_nI hc (by decide)), ix_nI (by omega), h0 c hc, inc, c_nb hc hd]
    unfold bdC
    by_cases c1 : o c = p + 1
    · rw [if_pos ((oI_eq (by omega) (by omega)).mpr c1)]
      unfold fn_X1_isOpen jn_X1_isOpen_25
      by_cases c2 : nb c d < 216
      · have hon := ho _ c2
        rw [nbI_in c2, if_neg (m1_ne _ (by omega)), if_pos (inb_nI c2 (by decide)), ix_nI (by omega), h0 _ c2]
        by_cases c3 : o (nb c d) = 0
        · rw [if_pos ((oI_m1 (by omega)).mpr c3)]
          simp [c1, c2, c3]
        · rw [if_neg (fun q => c3 ((oI_m1 (by omega)).mp q)), if_pos (inb_nI c2 (by decide))]
          by_cases c4 : o (nb c d) = p + 1
          · rw [if_pos ((oI_eq (by omega) (by omega)).mpr c4)]
            simp [c1, c2, c4]
          · rw [if_neg (fun q => c4 ((oI_eq (by omega) (by omega)).mp q))]
            simp [c1, c2, c3, c4]
      · rw [nbI_m1 c2, if_pos rfl]
        simp [c1, c2]
    · rw [if_neg (fun q => c1 ((oI_eq (by omega) (by omega)).mp q)), if_neg (by simp [c1])]
  have hle : fa_first (bdC o p d) 216 ≤ 216 := fa_first_le _ _
  have hst : ∀ c, c < fa_first (bdC o p d) 216 → bd_X1_canMove_2 k (nI p) (nI d) M (nI c) = some (.inl (nI (c + 1))) := by
    intro c hc
    rw [bd c (by omega), fa_first_no _ _ _ hc]; rfl
  by_cases c : fa_first (bdC o p d) 216 < 216
  · rw [if_neg (by simp [c])]
    refine lp_forb (fun p => nI p) (fa_first (bdC o p d) 216) (Sum.inr 0) rfl (by omega) hst ?_ rfl
    rw [bd _ c, fa_first_yes _ _ c]; rfl
  · rw [if_pos (by simp [c])]
    refine lp_forb (fun p => nI p) 216 (Sum.inl ()) rfl (by omega) (fun p hp => hst p (by omega)) ?_ rfl
    simp only [bd_X1_canMove_2, u1]
    rw [if_pos (by decide)]
def sfI (x y : Int32) (S : ST) : Int32 := if pcl S.F.n x = 0 then -1 else if dcl y = 0 then -1 else if cmv S.F.o (ix x) (ix y) then 0 else -2
theorem c_sf {M : Mem} {S : ST} {g : Nat} (hg : 5000 < g) (h : JC M S) (x y : Int32) : fn_X7_shiftFault g x y M = some (sfI x y S) := by
  unfold fn_X7_shiftFault sfI
  rw [c_pcl h.2.1, c_dcl]
  by_cases c : pcl S.F.n x = 0
  · rw [if_pos c, if_pos c]
  obtain ⟨p, hp, rfl⟩ := pcl_ex h.1.1.1 c
  rw [if_neg c, if_neg c]
  by_cases c2 : dcl y = 0
  · rw [if_pos c2, if_pos c2]
  obtain ⟨d, hd, rfl⟩ := dcl_ex c2
  have h8 := h.1.1.1
  rw [if_neg c2, if_neg c2, ix_nI (by omega), ix_nI (by omega), c_can hg h.2.1.2.2.2.2 (okF_o h.1.1) (by omega) hd]
  cases cmv S.F.o p d
  · rfl
  · rfl
theorem m_sf {M : Mem} {S : ST} {g : Nat} (hg : 5000 < g) (ok : okS S) (h : JM M S) (x y : Int32) : fn_X8_wrongShift g x y M = some (sfI x y S) := by
  unfold fn_X8_wrongShift sfI
  rw [m_pcl ok.1.1 (fM_n h.1), m_dcl]
  by_cases c : pcl S.F.n x = 0
  · rw [if_pos c, if_pos c]
  obtain ⟨p, hp, rfl⟩ := pcl_ex ok.1.1 c
  rw [if_neg c, if_neg c]
  by_cases c2 : dcl y = 0
  · rw [if_pos c2, if_pos c2]
  obtain ⟨d, hd, rfl⟩ := dcl_ex c2
  have h8 := ok.1.1
  rw [if_neg c2, if_neg c2, ix_nI (show p < 2 ^ 31 by omega), ix_nI (show d < 2 ^ 31 by omega)]
  have h0 := fM_o h.1
  have ho := okF_o ok.1
  refine lp_forb (fun c => (if anyB (bdC S.F.o p d) c then 0 else 1, nI c)) 216 (if anyB (bdC S.F.o p d) 216 then 0 else 1) rfl (by omega) ?_ ?_ ?_
  · intro c hc
    have hoc := ho c hc
    simp only [bd_X8_wrongShift_22, u2]
    rw [if_neg (show ¬ (216 : Int32) ≤ nI c from nI_ge (b := 216) hc (by decide)), m_nb hc hd, m_at h0 hc, anyB_s]
    simp only [bv, Option.bind_some]
    unfold jn_X8_wrongShift_80 jn_X8_wrongShift_76 jn_X8_wrongShift_81
    rw [inc]
    cases anyB (bdC S.F.o p d) c
    · simp only [Bool.false_eq_true, if_false, Bool.false_or]
      rw [if_neg (by decide)]
      unfold bdC
      by_cases c1 : S.F.o c = p + 1
      · rw [if_pos ((oI_eq (by omega) (by omega)).mpr c1)]
        by_cases c2 : nb c d < 216
        · have hon := ho _ c2
          rw [nbI_in c2, if_neg (nI_nn (by omega)), m_at h0 c2]
          simp only [Option.bind_some]
          by_cases c3 : S.F.o (nb c d) = 0
          · rw [if_pos ((oI_lt0 (by omega)).mpr c3)]
            simp [c1, c2, c3]
          · rw [if_neg (fun q => c3 ((oI_lt0 (by omega)).mp q))]
            by_cases c4 : S.F.o (nb c d) = p + 1
            · rw [if_pos ((oI_eq (by omega) (by omega)).mpr c4)]
              simp [c1, c2, c4]
            · rw [if_neg (fun q => c4 ((oI_eq (by omega) (by omega)).mp q))]
              simp [c1, c2, c3, c4]
        · rw [nbI_m1 c2, if_pos (by decide)]
          simp [c1, c2]
      · rw [if_neg (fun q => c1 ((oI_eq (by omega) (by omega)).mp q)), if_neg (by simp [c1])]
    · simp only [if_true, Bool.true_or]
  · simp only [bd_X8_wrongShift_22, u2]
    rw [if_pos (by decide)]
  · unfold cmv
    cases anyB (bdC S.F.o p d) 216
    · rfl
    · rfl
def mvO (o : Nat → Nat) (p d c : Nat) : Nat := if nb c (opp d) < 216 ∧ o (nb c (opp d)) = p + 1 then p + 1 else if o c = p + 1 then 0 else o c
def mvF (F : FR) (p d : Nat) : FR := (F.n, F.b, F.s, F.x, mvO F.o p d)
theorem okF_mv {F : FR} (h : okF F) {p d : Nat} (hp : p < F.n) (hd : d < 6) (hm : cmv F.o p d = true) : okF (mvF F p d) := by
  obtain ⟨h1, h2, h3, h4, h5⟩ := h
  refine ⟨h1, h2, h3, ?_, ?_⟩
  · intro c hc
    have := h4 c hc
    show mvO F.o p d c ≤ F.n
    unfold mvO
    split
    · omega
    · split <;> omega
  · intro q hq
    have hq : q < F.n := hq
    obtain ⟨c, hc, e⟩ := h5 q hq
    by_cases eq : q = p
    · subst eq
      obtain ⟨e1, e2⟩ := cmv_at hm hc e
      refine ⟨nb c d, e1, ?_⟩
      show mvO F.o q d (nb c d) = q + 1
      unfold mvO
      rw [nb_op hc hd e1, if_pos ⟨hc, e⟩]
    · refine ⟨c, hc, ?_⟩
      show mvO F.o p d c = q + 1
      unfold mvO
      rw [if_neg ?_, if_neg (by omega)]
      · exact e
      · rintro ⟨g1, g2⟩
        have := (nb_po hc hd g1).1
        obtain ⟨e1, e2⟩ := cmv_at hm g1 g2
        rw [this, e] at e2
        omega
/-- the cells that have gone, after some turns -/
def pdn (d i c : Nat) : Prop := if d % 2 = 0 then 216 ≤ c + i else c < i
theorem pdn_d (d i c : Nat) : pdn d i c ∨ ¬ pdn d i c := Classical.em _
theorem c_move {M : Mem} {k p d g : Nat} {F : FR} (hg : 5000 < g) (h : fC M k F) (ok : okF F) (hp : p < F.n) (hd : d < 6) (hm : cmv F.o p d = true) : ∃ M', fn_X1_move g k (nI p) (nI d) M = some M' ∧ eqx [k + 1] M M' ∧ fC M' k (mvF F p d) := by
  obtain ⟨h1, h2, h3, h4, h5⟩ := h
  have h8 := ok.1
  have ho := okF_o ok
  have key : ∃ M', lpN g (bd_X1_move_15 k (if d % 2 = 0 then 1 else 0) (nI p) (nI d)) ((0 : Int32), M) = some M' ∧ (eqx [k + 1] M M' ∧ hO M' k (mvO F.o p d)) := by
    refine lp_inv (fun i w => w.1 = nI i ∧ eqx [k + 1] M w.2 ∧ (∀ c, c < 216 → ((nb c (opp d) < 216 ∧ F.o (nb c (opp d)) = p + 1 ∧ pdn d i (nb c (opp d))) → w.2 (k + 1) c = nI p) ∧ (¬ (nb c (opp d) < 216 ∧ F.o (nb c (opp d)) = p + 1 ∧ pdn d i (nb c (opp d))) → w.2 (k + 1) c = if F.o c = p + 1 ∧ (if d % 2 = 0 then 216 ≤ c + i else c < i) then -1 else oI (F.o c)))) _ 216 ?_ ?_ (by omega) ?_
    · rintro i ⟨w, N⟩ hi ⟨q1, q2, q3⟩
      dsimp only at q1 q2 q3
      subst q1
      obtain ⟨x, hx⟩ : ∃ x, x = if d % 2 = 0 then 215 - i else i := ⟨_, rfl⟩
      have hxl : x < 216 := by rw [hx]; split <;> omega
      have pre : ∀ j, j ≤ i + 1 → nb x (opp d) < 216 → ¬ pdn d j (nb x (opp d)) := by
        intro j hj hn
        have := (nb_po hxl hd hn).2
        unfold pdn
        by_cases e : d % 2 = 0
        · rw [if_pos e] at this hx ⊢; omega
        · rw [if_neg e] at this hx ⊢; omega
      have px : pdn d (i + 1) x ∧ ¬ pdn d i x := by
        unfold pdn
        by_cases e : d % 2 = 0
        · rw [if_pos e] at hx; rw [if_pos e, if_pos e]; omega
        · rw [if_neg e] at hx; rw [if_neg e, if_neg e]; omega
      have pstep : ∀ c, c < 216 → c ≠ x → (pdn d (i + 1) c ↔ pdn d i c) := by
        intro c hc hn
        unfold pdn
        by_cases e : d % 2 = 0
        · rw [if_pos e] at hx; rw [if_pos e, if_pos e]; omega
        · rw [if_neg e] at hx; rw [if_neg e, if_neg e]; omega
      have nx : N (k + 1) x = oI (F.o x) := by
        have := (q3 x hxl).2 (fun z => pre i (by omega) z.1 z.2.2)
        rw [this, if_neg]
        rintro ⟨_, z⟩
        exact px.2 z
      have hox := ho x hxl
      have bd : bd_X1_move_15 k (if d % 2 = 0 then 1 else 0) (nI p) (nI d) (nI i, N) = jn_X1_move_38 k (nI x) (nI i) (nI p) (nI d) N := by
        simp only [bd_X1_move_15, u2]
        rw [if_neg (show ¬ (216 : Int32) ≤ nI i from nI_ge (b := 216) hi (by decide))]
        by_cases e : d % 2 = 0
        · rw [if_pos e] at hx
          rw [if_pos e, if_neg (by decide), hx, show (215 : Int32) - nI i = nI (215 - i) from nI_sub (a := 215) (by omega)]
        · rw [if_neg e] at hx
          rw [if_neg e, if_pos rfl, hx]
      rw [bd]
      unfold jn_X1_move_38
      rw [if_pos (inb_nI hxl (by decide)), ix_nI (by omega), nx]
      by_cases c1 : F.o x = p + 1
      · obtain ⟨e1, e2⟩ := cmv_at hm hxl c1
        rw [if_pos ((oI_eq (by omega) (by omega)).mpr c1), c_nb hxl hd, nbI_in e1]
        unfold jn_X1_move_61
        rw [if_neg (m1_ne _ (by omega)), if_pos (inb_nI hxl (by decide)), ix_nI (by omega), inc]
        simp only [bv]
        rw [if_pos (inb_nI e1 (by decide)), ix_nI (by omega)]
        have back := nb_op hxl hd e1
        have xne : x ≠ nb x d := by
          intro z
          have hn : nb (nb x d) (opp d) < 216 := by rw [back]; exact hxl
          have := (nb_po e1 hd hn).2
          rw [back] at this
          split at this <;> omega
        refine ⟨_, rfl, rfl, eqx_st (eqx_st q2 (by simp) _ _) (by simp) _ _, ?_⟩
        intro c hc
        dsimp only
        rw [st_at, st_at]
        by_cases ec : c = nb x d
        · subst ec
          rw [upd_at, back]
          exact ⟨fun _ => rfl, fun z => absurd ⟨hxl, c1, px.1⟩ z⟩
        · rw [upd_ne _ _ ec]
          have pne : nb c (opp d) < 216 → nb c (opp d) ≠ x := by
            intro g1 g2
            apply ec
            have := (nb_po hc hd g1).1
            rw [g2] at this
            exact this.symm
          by_cases ex : c = x
          · subst ex
            rw [upd_at]
            refine ⟨fun z => absurd z.2.2 (pre (i + 1) (by omega) z.1), fun _ => ?_⟩
            rw [if_pos ⟨c1, px.1⟩]
          · rw [upd_ne _ _ ex]
            obtain ⟨y1, y2⟩ := q3 c hc
            have ps := pstep c hc ex
            refine ⟨fun z => y1 ⟨z.1, z.2.1, (pstep _ z.1 (pne z.1)).mp z.2.2⟩, fun z => ?_⟩
            rw [y2 (fun w => z ⟨w.1, w.2.1, (pstep _ w.1 (pne w.1)).mpr w.2.2⟩)]
            unfold pdn at ps
            by_cases q : F.o c = p + 1 ∧ (if d % 2 = 0 then 216 ≤ c + i else c < i)
            · rw [if_pos q, if_pos ⟨q.1, ps.mpr q.2⟩]
            · rw [if_neg q, if_neg (fun w => q ⟨w.1, ps.mp w.2⟩)]
      · rw [if_neg (fun q => c1 ((oI_eq (by omega) (by omega)).mp q))]
        unfold jn_X1_move_61
        rw [if_pos rfl, inc]
        refine ⟨_, rfl, rfl, q2, ?_⟩
        intro c hc
        dsimp only
        obtain ⟨y1, y2⟩ := q3 c hc
        have pst2 : nb c (opp d) < 216 → F.o (nb c (opp d)) = p + 1 → (pdn d (i + 1) (nb c (opp d)) ↔ pdn d i (nb c (opp d))) := by
          intro g1 g2
          exact pstep _ g1 (fun z => c1 (by rw [← z]; exact g2))
        refine ⟨fun z => y1 ⟨z.1, z.2.1, (pst2 z.1 z.2.1).mp z.2.2⟩, fun z => ?_⟩
        rw [y2 (fun w => z ⟨w.1, w.2.1, (pst2 w.1 w.2.1).mpr w.2.2⟩)]
        by_cases e : F.o c = p + 1
        · have ps := pstep c hc (fun z => c1 (by rw [← z]; exact e))
          unfold pdn at ps
          by_cases q : (if d % 2 = 0 then 216 ≤ c + i else c < i)
          · rw [if_pos ⟨e, q⟩, if_pos ⟨e, ps.mpr q⟩]
          · rw [if_neg (fun w => q w.2), if_neg (fun w => q (ps.mp w.2))]
        · rw [if_neg (fun w => e w.1), if_neg (fun w => e w.1)]
    · rintro ⟨w, N⟩ ⟨q1, q2, q3⟩
      dsimp only at q1 q2 q3
      subst q1
      refine ⟨N, ?_, q2, ?_⟩
      · simp only [bd_X1_move_15, u2]
        rw [if_pos (by decide)]
      · intro c hc
        obtain ⟨y1, y2⟩ := q3 c hc
        have all : ∀ z, z < 216 → pdn d 216 z := by
          intro z hz
          unfold pdn
          split <;> omega
        unfold mvO
        by_cases q : nb c (opp d) < 216 ∧ F.o (nb c (opp d)) = p + 1
        · rw [if_pos q, oI_s]; exact y1 ⟨q.1, q.2, all _ q.1⟩
        · rw [if_neg q, y2 (fun w => q ⟨w.1, w.2.1⟩)]
          by_cases e : F.o c = p + 1
          · rw [if_pos ⟨e, by split <;> omega⟩, if_pos e]; rfl
          · rw [if_neg (fun w => e w.1), if_neg e]
    · refine ⟨rfl, eqx_rf _ _, ?_⟩
      intro c hc
      have no : ∀ z, z < 216 → ¬ pdn d 0 z := by
        intro z hz
        unfold pdn
        split <;> omega
      refine ⟨fun z => absurd z.2.2 (no _ z.1), fun _ => ?_⟩
      rw [if_neg ?_]
      · exact h5 c hc
      · rintro ⟨_, z⟩
        exact no c hc z
  obtain ⟨M', z1, z2, z3⟩ := key
  unfold fn_X1_move jn_X1_move_11
  have er : rm (nI d) 2 = nI (d % 2) := rm_nI (d := 2) (by omega) (by decide) (by decide)
  rw [er]
  refine ⟨M', ?_, z2, ?_⟩
  · by_cases e : d % 2 = 0
    · rw [if_pos e] at z1
      rw [if_pos (by rw [e]; rfl), z1]; rfl
    · rw [if_neg e] at z1
      rw [if_neg (fun q => e ((nI_z (by omega)).mp q)), z1]; rfl
  · refine ⟨?_, ?_, ?_, ?_, z3⟩
    · rw [z2 _ (by simp)]; exact h1
    · rw [z2 _ (by simp)]; exact h2
    · rw [z2 _ (by simp)]; exact h3
    · intro j hj; rw [z2 _ (by simp)]; exact h4 j hj
