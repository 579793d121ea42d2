/-! the reference's pages -/
theorem i227 (p k : Nat) : (227 : Int32) * nI p + nI k = nI (227 * p + k) := by
  show nI 227 * nI p + nI k = _
  rw [pk_mul, nI_add]
theorem m_copies {M : Mem} {a b g : Nat} (hg : 5000 < g) (ha : a ≤ 9) (hb : b ≤ 9) (hne : a ≠ b) : ∃ M', fn_X8_copies g (nI a) (nI b) M = some M' ∧ eqx [62] M M' ∧ (∀ k, k < 227 → M' 62 (227 * b + k) = M 62 (227 * a + k)) ∧ (∀ j, (j < 227 * b ∨ 227 * b + 227 ≤ j) → M' 62 j = M 62 j) := by
  unfold fn_X8_copies
  have key : ∃ M', lpN g (bd_X8_copies_2 (nI a) (nI b)) ((0 : Int32), M) = some M' ∧ (eqx [62] M M' ∧ (∀ k, k < 227 → M' 62 (227 * b + k) = M 62 (227 * a + k)) ∧ (∀ j, (j < 227 * b ∨ 227 * b + 227 ≤ j) → M' 62 j = M 62 j)) := by
    refine lp_inv (fun i w => w.1 = nI i ∧ eqx [62] M w.2 ∧ (∀ k, k < i → w.2 62 (227 * b + k) = M 62 (227 * a + k)) ∧ (∀ j, (j < 227 * b ∨ 227 * b + i ≤ j) → w.2 62 j = M 62 j)) _ 227 ?_ ?_ (by omega) ⟨rfl, eqx_rf _ _, fun k hk => by omega, fun j _ => rfl⟩
    · rintro i ⟨v, N⟩ hi ⟨q1, q2, q3, q4⟩
      dsimp only at q1 q2 q3 q4
      subst q1
      simp only [bd_X8_copies_2, u2]
      rw [if_neg (show ¬ (227 : Int32) ≤ nI i from nI_ge (b := 227) hi (by decide)), i227, i227, if_pos (inb_nI (show 227 * a + i < 2270 by omega) (by decide)), if_pos (inb_nI (show 227 * b + i < 2270 by omega) (by decide)), ix_nI (by omega), ix_nI (by omega)]
      simp only [bv]
      refine ⟨_, rfl, inc i, eqx_st q2 (by decide) _ _, ?_, ?_⟩
      · intro k hk
        dsimp only
        rw [st_at]
        by_cases e : k = i
        · subst e
          rw [upd_at]
          exact q4 _ (by omega)
        · rw [upd_ne _ _ (by omega)]; exact q3 k (by omega)
      · intro j hj
        dsimp only
        rw [st_at, upd_ne _ _ (by omega)]
        exact q4 j (by omega)
    · rintro ⟨v, N⟩ ⟨q1, q2, q3, q4⟩
      dsimp only at q1 q2 q3 q4
      subst q1
      refine ⟨N, ?_, q2, q3, q4⟩
      simp only [bd_X8_copies_2, u2]
      rw [if_pos (by decide)]
  obtain ⟨M', z1, z2⟩ := key
  exact ⟨M', by rw [z1]; rfl, z2⟩
theorem m_copyF {M : Mem} {a b g : Nat} (hg : 5000 < g) (ha : a ≤ 9) (hb : b ≤ 9) (hne : a ≠ b) {F : FR} (h : fM M a F) : ∃ M', fn_X8_copies g (nI a) (nI b) M = some M' ∧ eqx [62] M M' ∧ fM M' b F ∧ (∀ p G, p ≠ b → fM M p G → fM M' p G) := by
  obtain ⟨M', z1, z2, z3, z4⟩ := m_copies hg ha hb hne (M := M)
  refine ⟨M', z1, z2, fun k hk => by rw [z3 k hk]; exact h k hk, ?_⟩
  intro p G hp hG k hk
  rw [z4 _ (by omega)]
  exact hG k hk
def back (M : Mem) (h : Nat) (hs : Nat → FR) : Prop := M 61 1 = nI h ∧ ∀ t, t < h → fM M (t + 1) (hs t)
theorem m_records {M : Mem} {h g : Nat} {hs : Nat → FR} {F : FR} (hg : 5000 < g) (hh : h ≤ 8) (hr : back M h hs) (hF : fM M 0 F) : ∃ M', fn_X8_records g M = some M' ∧ eqx [61, 62] M M' ∧ back M' (rcH h) (rcS h hs F) ∧ fM M' 0 F ∧ (∀ j, j ≠ 1 → M' 61 j = M 61 j) ∧ (∀ G, fM M 9 G → fM M' 9 G) := by
  obtain ⟨r1, r2⟩ := hr
  have jn : ∀ (N : Mem) (h' : Nat) (hs' : Nat → FR), h' < 8 → back N h' hs' → fM N 0 F → ∃ M', jn_X8_records_41 g N = some M' ∧ eqx [61, 62] N M' ∧ back M' (h' + 1) (fun t => if t = h' then F else hs' t) ∧ fM M' 0 F ∧ (∀ j, j ≠ 1 → M' 61 j = N 61 j) ∧ (∀ G, fM N 9 G → fM M' 9 G) := by
    intro N h' hs' hh' hb hN0
    unfold jn_X8_records_41
    simp only [bv]
    obtain ⟨N1, hN1⟩ : ∃ z, z = st N 61 1 (N 61 1 + 1) := ⟨_, rfl⟩
    rw [← hN1]
    have e1 : eqx [61] N N1 := by rw [hN1]; exact eqx_st (eqx_rf _ _) (by decide) _ _
    have p1 : N1 61 1 = nI (h' + 1) := by rw [hN1, st_at, upd_at, hb.1, inc]
    rw [p1]
    obtain ⟨N2, z1, z2, z3, z4⟩ := m_copyF hg (a := 0) (b := h' + 1) (by omega) (by omega) (by omega) (fM_eq hN0 (e1 _ (by decide)))
    rw [show (0 : Int32) = nI 0 from rfl, z1]
    refine ⟨N2, rfl, eqx_tr (eqx_mono e1 (by decide)) (eqx_mono z2 (by decide)), ⟨?_, ?_⟩, z4 0 F (by omega) (fM_eq hN0 (e1 _ (by decide))), ?_, ?_⟩
    · rw [z2 _ (by decide)]; exact p1
    · intro t ht
      dsimp only
      by_cases e : t = h'
      · rw [if_pos e, e]; exact z3
      · rw [if_neg e]
        exact z4 _ _ (by omega) (fM_eq (hb.2 t (by omega)) (e1 _ (by decide)))
    · intro j hj
      rw [z2 _ (by decide), hN1, st_at, upd_ne _ _ hj]
    · intro G hG
      exact z4 9 G (by omega) (fM_eq hG (e1 _ (by decide)))
  unfold fn_X8_records
  rw [r1]
  by_cases c : h = 8
  · subst c
    rw [if_pos (show nI 8 = (8 : Int32) from rfl)]
    have key : ∃ M', lpN g (bd_X8_records_11 g) ((1 : Int32), M) = some M' ∧ (eqx [62] M M' ∧ fM M' 0 F ∧ (∀ G, fM M 9 G → fM M' 9 G) ∧ (∀ t, t < 7 → fM M' (t + 1) (hs (t + 1)))) := by
      refine lp_inv (fun i w => w.1 = nI (i + 1) ∧ eqx [62] M w.2 ∧ fM w.2 0 F ∧ (∀ G, fM M 9 G → fM w.2 9 G) ∧ (∀ t, t < i → fM w.2 (t + 1) (hs (t + 1))) ∧ (∀ t, i ≤ t → t < 8 → fM w.2 (t + 1) (hs t))) _ 7 ?_ ?_ (by omega) ⟨rfl, eqx_rf _ _, hF, fun G h => h, fun t ht => by omega, fun t _ ht => r2 t ht⟩
      · rintro i ⟨v, N⟩ hi ⟨q1, q2, q3, q4, q5, q6⟩
        dsimp only at q1 q2 q3 q4 q5 q6
        subst q1
        simp only [bd_X8_records_11, u2]
        rw [if_neg (show ¬ (8 : Int32) ≤ nI (i + 1) from nI_ge (b := 8) (by omega) (by decide)), inc]
        obtain ⟨N2, z1, z2, z3, z4⟩ := m_copyF hg (a := i + 1 + 1) (b := i + 1) (by omega) (by omega) (by omega) (q6 (i + 1) (by omega) (by omega))
        rw [z1]
        refine ⟨_, rfl, rfl, eqx_tr q2 z2, z4 0 F (by omega) q3, fun G hG => z4 9 G (by omega) (q4 G hG), ?_, ?_⟩
        · intro t ht
          by_cases e : t = i
          · subst e; exact z3
          · exact z4 _ _ (by omega) (q5 t (by omega))
        · intro t h1 h2
          exact z4 _ _ (by omega) (q6 t (by omega) h2)
      · rintro ⟨v, N⟩ ⟨q1, q2, q3, q4, q5, q6⟩
        dsimp only at q1 q2 q3 q4 q5 q6
        subst q1
        refine ⟨N, ?_, q2, q3, q4, q5⟩
        simp only [bd_X8_records_11, u2]
        rw [if_pos (by decide)]
    obtain ⟨M1, z1, z2, z3, z4, z5⟩ := key
    rw [z1]
    simp only [Option.bind_some, u1, bv]
    obtain ⟨M2, hM2⟩ : ∃ z, z = st M1 61 1 (M1 61 1 - 1) := ⟨_, rfl⟩
    rw [← hM2]
    have e2 : eqx [61] M1 M2 := by rw [hM2]; exact eqx_st (eqx_rf _ _) (by decide) _ _
    have p1 : M2 61 1 = nI 7 := by rw [hM2, st_at, upd_at, z2 _ (by decide), r1]; decide
    obtain ⟨M3, y1, y2, y3, y4, y5, y6⟩ := jn M2 7 (fun t => hs (t + 1)) (by omega) ⟨p1, fun t ht => fM_eq (z5 t ht) (e2 _ (by decide))⟩ (fM_eq z3 (e2 _ (by decide)))
    refine ⟨M3, y1, eqx_tr (eqx_mono z2 (by decide)) (eqx_tr (eqx_mono e2 (by decide)) y2), y3, y4, ?_, fun G hG => y6 G (fM_eq (z4 G hG) (e2 _ (by decide)))⟩
    intro j hj
    rw [y5 j hj, hM2, st_at, upd_ne _ _ hj, z2 _ (by decide)]
  · rw [if_neg (show ¬ nI h = (8 : Int32) from fun q => c ((nI_eq (b := 8) (by omega) (by decide)).mp q))]
    obtain ⟨M3, y1, y2, y3, y4, y5, y6⟩ := jn M h hs (by omega) ⟨r1, r2⟩ hF
    have hlt : h < 8 := by omega
    refine ⟨M3, y1, y2, ?_, y4, y5, y6⟩
    have e1 : rcH h = h + 1 := by unfold rcH; rw [if_pos hlt]
    have e2 : rcS h hs F = fun t => if t = h then F else hs t := by funext t; unfold rcS; rw [if_pos hlt]
    rw [e1, e2]
    exact y3
theorem m_empties {M : Mem} {g : Nat} (hg : 5000 < g) : ∃ M', fn_X8_empties g M = some M' ∧ eqx [62] M M' ∧ fM M' 0 fZ ∧ (∀ p G, p ≠ 0 → fM M p G → fM M' p G) := by
  unfold fn_X8_empties
  have r1 : lpN g bd_X8_empties_2 ((0 : Int32), M) = some (stf M 62 (fa_fill (fun _ => 0) (M 62) 227)) := by
    refine lp_fill _ (by omega) M ?_ ?_
    · intro i f hi
      simp only [bd_X8_empties_2, u2]
      rw [if_neg (show ¬ (227 : Int32) ≤ nI i from nI_ge (b := 227) hi (by decide)), if_pos (inb_nI (show i < 2270 by omega) (by omega)), ix_nI (by omega), inc]
      rfl
    · intro f
      simp only [bd_X8_empties_2, u2]
      rw [if_pos (by decide)]
  rw [r1]
  refine ⟨_, rfl, ?_, ?_, ?_⟩
  · intro a ha
    simp only [List.mem_cons, List.not_mem_nil, or_false] at ha
    exact stf_ne _ _ ha
  · intro k hk
    rw [stf_at, fa_fill_in (by omega)]
    unfold pg fZ
    split
    · rfl
    · split
      · rfl
      · split
        · rfl
        · split <;> rfl
  · intro p G hp hG k hk
    rw [stf_at, fa_fill_out (by omega)]
    exact hG k hk
