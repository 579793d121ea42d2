/-! ===== the reference reads the text ===== -/
def spN (tx : Nat → Nat) : Nat → Nat → Nat
  | 0, i => i
  | m + 1, i => if tx i = 32 then spN tx m (i + 1) else i
def sp (tx : Nat → Nat) (tl i : Nat) : Nat := spN tx (tl - i) i
theorem sp_end {tx : Nat → Nat} {tl i : Nat} (h : tl ≤ i) : sp tx tl i = i := by
  unfold sp
  rw [show tl - i = 0 by omega]; rfl
theorem sp_sp {tx : Nat → Nat} {tl i : Nat} (h : i < tl) (e : tx i = 32) : sp tx tl i = sp tx tl (i + 1) := by
  unfold sp
  rw [show tl - i = (tl - (i + 1)) + 1 by omega]
  conv => lhs; unfold spN
  rw [if_pos e]
theorem sp_no {tx : Nat → Nat} {tl i : Nat} (h : i < tl) (e : ¬ tx i = 32) : sp tx tl i = i := by
  unfold sp
  rw [show tl - i = (tl - (i + 1)) + 1 by omega]
  conv => lhs; unfold spN
  rw [if_neg e]
theorem sp_all {tx : Nat → Nat} {tl : Nat} : ∀ m i, i + m = tl → i ≤ sp tx tl i ∧ sp tx tl i ≤ tl ∧ (sp tx tl i < tl → ¬ tx (sp tx tl i) = 32) ∧ ∀ Q : QS, Q.pl ≠ 2 → run tx (tl - i) i Q = run tx (tl - sp tx tl i) (sp tx tl i) Q := by
  intro m
  induction m with
  | zero =>
    intro i hi
    rw [sp_end (by omega)]
    exact ⟨Nat.le_refl _, by omega, fun h => by omega, fun _ _ => rfl⟩
  | succ m ih =>
    intro i hi
    by_cases e : tx i = 32
    · obtain ⟨a, b, c, d⟩ := ih (i + 1) (by omega)
      rw [sp_sp (by omega) e]
      refine ⟨by omega, b, c, fun Q hQ => ?_⟩
      rw [← d Q hQ, show tl - i = (tl - (i + 1)) + 1 by omega]
      conv => lhs; unfold run
      have : stp Q (tx i) = (0, Q) := by unfold stp; rw [if_pos ⟨e, hQ⟩]
      rw [this, if_pos rfl]
    · rw [sp_no (by omega) e]
      exact ⟨Nat.le_refl _, by omega, fun _ => e, fun _ _ => rfl⟩
def tM (M : Mem) (tl : Nat) (tx : Nat → Nat) : Prop := M 61 9 = nI tl ∧ ∀ j, j < tl → M 69 j = nI (tx j)
theorem m_spaced {M : Mem} {tx : Nat → Nat} {tl i g : Nat} (hg : 5000 < g) (ht : tl ≤ 80) (htx : ∀ j, j < tl → 32 ≤ tx j ∧ tx j ≤ 126) (h : tM M tl tx) (hi : i ≤ tl) : fn_X8_spaced g (nI i) M = some (nI (sp tx tl i)) := by
  unfold fn_X8_spaced
  have key : ∀ m i f, i + m = tl → m < f → lpN f (bd_X8_spaced_2 M) (nI i) = some (nI (sp tx tl i)) := by
    intro m
    induction m with
    | zero =>
      intro i f hi hf
      obtain ⟨f, rfl⟩ : ∃ x, f = x + 1 := ⟨f - 1, by omega⟩
      rw [sp_end (by omega)]
      refine lp_stop ?_ f
      simp only [bd_X8_spaced_2, u1]
      rw [h.1, show i = tl by omega, if_pos (Int32.le_refl _)]
    | succ m ih =>
      intro i f hi hf
      obtain ⟨f, rfl⟩ : ∃ x, f = x + 1 := ⟨f - 1, by omega⟩
      have hb := htx i (by omega)
      have body : bd_X8_spaced_2 M (nI i) = if tx i = 32 then some (.inl (nI (i + 1))) else some (.inr (nI i)) := by
        simp only [bd_X8_spaced_2, u1]
        rw [h.1, if_neg (nI_ge (show i < tl by omega) (by omega)), if_pos (inb_nI (show i < 80 by omega) (by decide)), ix_nI (by omega), h.2 i (by omega), inc]
        by_cases e : tx i = 32
        · rw [if_pos e, if_pos (show nI (tx i) = (32 : Int32) from by rw [e]; rfl)]
        · rw [if_neg e, if_neg (show ¬ nI (tx i) = (32 : Int32) from fun q => e ((nI_eq (b := 32) (by omega) (by decide)).mp q))]
      by_cases e : tx i = 32
      · rw [if_pos e] at body
        rw [lp_go body, sp_sp (by omega) e]
        exact ih (i + 1) f (by omega) (by omega)
      · rw [if_neg e] at body
        rw [sp_no (by omega) e]
        exact lp_stop body f
  rw [key (tl - i) i g (by omega) (by omega)]
  rfl
def isDg (tx : Nat → Nat) (tl i : Nat) : Prop := i < tl ∧ 48 ≤ tx i ∧ tx i ≤ 57
theorem m_digit {M : Mem} {tx : Nat → Nat} {tl i : Nat} (ht : tl ≤ 80) (htx : ∀ j, j < tl → 32 ≤ tx j ∧ tx j ≤ 126) (h : tM M tl tx) (hi : i < 2 ^ 31) : (isDg tx tl i → fn_X8_digit (nI i) M = some (nI (tx i - 48))) ∧ (¬ isDg tx tl i → fn_X8_digit (nI i) M = some (-9)) := by
  unfold fn_X8_digit
  rw [h.1]
  by_cases c1 : i < tl
  · have hb := htx i c1
    rw [if_neg (nI_ge c1 (by omega)), if_pos (inb_nI (show i < 80 by omega) (by decide)), if_pos (inb_nI (show i < 80 by omega) (by decide)), ix_nI (by omega), h.2 i c1, show fn_X8_in (nI (tx i)) 48 57 = _ from in8 (a := 48) (b := 57) (by omega) (by decide) (by decide)]
    refine ⟨fun q => ?_, fun q => ?_⟩
    · rw [if_pos q.2, if_neg (by decide), show (nI (tx i) - 48 : Int32) = nI (tx i - 48) from nI_sub (b := 48) q.2.1]
    · rw [if_neg (fun z => q ⟨c1, z⟩), if_pos rfl]
  · rw [if_pos ((nI_leI (by omega) hi).mpr (by omega))]
    exact ⟨fun q => absurd q.1 c1, fun _ => rfl⟩
theorem inB_cong {v w : Nat → Nat} (h : ∀ i, i < 6 → v i = w i) (c : Nat) : inB v c = inB w c := by
  unfold inB
  rw [h 0 (by omega), h 1 (by omega), h 2 (by omega), h 3 (by omega), h 4 (by omega), h 5 (by omega)]
theorem mt_cong {v w : Nat → Nat} (h : ∀ i, i < 6 → v i = w i) (o : Nat → Nat) (q : Nat) : mt o q v = mt o q w := by
  unfold mt
  rw [first_any, first_any]
  apply anyB_cong
  intro c _
  unfold mtf
  rw [inB_cong h]
theorem adB_cong {v w : Nat → Nat} (h : ∀ i, i < 6 → v i = w i) (F : FR) (p : Nat) : adB F p v = adB F p w := by
  unfold adB
  have : adO F.o (p + 1) v = adO F.o (p + 1) w := by
    funext c
    unfold adO
    rw [inB_cong h]
  rw [this]
theorem m_fails {M : Mem} {tl : Nat} (h : M 61 9 = nI tl) (k p : Int32) : fn_X8_fails k p M = some (nI tl, st (st M 61 10 k) 61 11 p) := by
  unfold fn_X8_fails
  simp only [bv]
  rw [st_at, upd_ne _ _ (by decide), st_at, upd_ne _ _ (by decide), h]
def gF (F : FR) (pc : Nat) : FR := (pc + 1, F.b, F.s, F.x, F.o)
/-- within a box: so many digits are read -/
def BI (tx : Nat → Nat) (tl fr : Nat) (Q : QS) (k : Nat) : Prop := ∃ Qk : QS, okQ Qk ∧ Qk.dg = k ∧ Qk.pc = Q.pc ∧ Qk.F = Q.F ∧ Qk.pl ≠ 3 ∧ (k = 0 → Qk.pl = Q.pl) ∧ (k ≠ 0 → Qk.pl = 2) ∧ (∀ j, j < k → Qk.v j = tx (fr + j) - 48 ∧ isDg tx tl (fr + j)) ∧ fr + k ≤ tl ∧ run tx (tl - fr) fr Q = run tx (tl - (fr + k)) (fr + k) Qk
def BF (tx : Nat → Nat) (tl fr : Nat) (Q : QS) : Prop := ∃ Qk : QS, okQ Qk ∧ Qk.dg = 5 ∧ Qk.pc = Q.pc ∧ Qk.F = Q.F ∧ Qk.pl ≠ 3 ∧ Qk.pl = 2 ∧ (∀ j, j < 5 → Qk.v j = tx (fr + j) - 48) ∧ (∀ j, j < 6 → isDg tx tl (fr + j)) ∧ rgN Qk.v 5 (tx (fr + 5) - 48) = true ∧ run tx (tl - fr) fr Q = run tx (tl - (fr + 5)) (fr + 5) Qk
theorem run_c {tx : Nat → Nat} {tl i : Nat} (h : i < tl) (Q : QS) : run tx (tl - i) i Q = if (stp Q (tx i)).1 = 0 then run tx (tl - (i + 1)) (i + 1) (stp Q (tx i)).2 else ((stp Q (tx i)).1, i, Q.F) := by
  rw [show tl - i = (tl - (i + 1)) + 1 by omega]
  rfl
theorem m_boxloop {M : Mem} {tx : Nat → Nat} {tl fr g : Nat} {Q : QS} (hg : 5000 < g) (ht : tl ≤ 80) (htx : ∀ j, j < tl → 32 ≤ tx j ∧ tx j ≤ 126) (h : tM M tl tx) (hf : fr ≤ tl) (hs : fr < tl → ¬ tx fr = 32) (hQ : okQ Q) (hp : Q.pl = 0 ∨ Q.pl = 1) (h0 : Q.pl = 0 → fr < tl) :
    ∃ r, lpN g (bd_X8_readsBox_2 (nI fr)) ((0 : Int32), M) = some r ∧ ((r = .inl M ∧ BF tx tl fr Q) ∨ (∃ k p : Nat, r = .inr (nI tl, st (st M 61 10 (nI k)) 61 11 (nI p)) ∧ k ≠ 0 ∧ k = (run tx (tl - fr) fr Q).1 ∧ p = (run tx (tl - fr) fr Q).2.1)) := by
  refine lp_meas (fun s : Int32 × Mem => ∃ k, k ≤ 6 ∧ s = (nI k, M) ∧ (k ≤ 5 → BI tx tl fr Q k) ∧ (k = 6 → BF tx tl fr Q)) _ (fun s => 6 - ix s.1) ?_ g ((0 : Int32), M) (by show 6 - ix (0 : Int32) < g; omega) ⟨0, by omega, rfl, fun _ => ?_, fun z => by omega⟩
  · rintro s ⟨k, hk, rfl, hB, hF⟩
    by_cases k6 : k = 6
    · subst k6
      refine Or.inr ⟨.inl M, ?_, Or.inl ⟨rfl, hF rfl⟩⟩
      simp only [bd_X8_readsBox_2, u2]
      rw [if_pos (by decide)]
    · obtain ⟨Qk, q1, q2, q3, q4, q5, q6, q7, q8, q9, q10⟩ := hB (by omega)
      obtain ⟨o1, o2, o3, o4, o5, o6, o7, o8, o9, o10⟩ := q1
      have q1 : okQ Qk := ⟨o1, o2, o3, o4, o5, o6, o7, o8, o9, o10⟩
      have eadd : nI fr + nI k = nI (fr + k) := nI_add fr k
      obtain ⟨dy, dn⟩ := m_digit (i := fr + k) ht htx h (by omega)
      simp only [bd_X8_readsBox_2, u2]
      rw [if_neg (show ¬ (6 : Int32) ≤ nI k from nI_ge (b := 6) (by omega) (by decide)), eadd]
      by_cases c1 : isDg tx tl (fr + k)
      · rw [dy c1]
        simp only [Option.bind_some]
        have hb := c1.2
        rw [if_neg (m9_ne _ (by omega))]
        have n1 : ¬ (tx (fr + k) = 32 ∧ Qk.pl ≠ 2) := fun z => by omega
        have hst : stp Qk (tx (fr + k)) = if rgN Qk.v k (tx (fr + k) - 48) then (if k + 1 < 6 then (0, (2, k + 1, Qk.pc, Qk.F, vst Qk.v k (tx (fr + k) - 48))) else if mt Qk.F.o (Qk.pc + 1) (vst Qk.v k (tx (fr + k) - 48)) then (3, Qk) else (0, (3, 0, Qk.pc, adB Qk.F Qk.pc (vst Qk.v k (tx (fr + k) - 48)), vst Qk.v k (tx (fr + k) - 48)))) else (2, Qk) := by
          unfold stp
          rw [if_neg n1, if_neg q5, if_pos hb, q2]
        have good : rgN Qk.v k (tx (fr + k) - 48) = true → (∃ s', some (Sum.inl (nI k + 1, M) : (Int32 × Mem) ⊕ (Mem ⊕ (Int32 × Mem))) = some (.inl s') ∧ (∃ k', k' ≤ 6 ∧ s' = (nI k', M) ∧ (k' ≤ 5 → BI tx tl fr Q k') ∧ (k' = 6 → BF tx tl fr Q)) ∧ 6 - ix s'.1 < 6 - ix (nI k)) := by
          intro hr
          rw [hr, if_pos rfl] at hst
          refine ⟨(nI (k + 1), M), by rw [inc], ⟨k + 1, by omega, rfl, fun z => ?_, fun z => ?_⟩, ?_⟩
          · rw [if_pos (by omega)] at hst
            have ok' := okQ_stp q1 (tx (fr + k)) (by rw [hst])
            rw [hst] at ok'
            refine ⟨_, ok', rfl, q3, q4, by show ¬ (2 = 3); omega, fun w => by omega, fun _ => rfl, ?_, by have := c1.1; omega, ?_⟩
            · intro j hj
              show vst Qk.v k (tx (fr + k) - 48) j = _ ∧ _
              unfold vst
              by_cases e : j = k
              · rw [if_pos e, e]; exact ⟨rfl, c1⟩
              · rw [if_neg e]; exact q8 j (by omega)
            · rw [q10, run_c c1.1, hst, if_pos rfl]
              rfl
          · have k5 : k = 5 := by omega
            subst k5
            refine ⟨Qk, q1, q2, q3, q4, q5, q7 (by omega), fun j hj => (q8 j hj).1, ?_, hr, q10⟩
            intro j hj
            by_cases e : j = 5
            · rw [e]; exact c1
            · exact (q8 j (by omega)).2
          · show 6 - ix (nI (k + 1)) < 6 - ix (nI k)
            rw [ix_nI (by omega), ix_nI (by omega)]; omega
        have bad : rgN Qk.v k (tx (fr + k) - 48) = false → ∃ r, jn_X8_readsBox_70 (nI k) (nI fr) M = some (.inr r) ∧ ((r = .inl M ∧ BF tx tl fr Q) ∨ (∃ k p : Nat, r = .inr (nI tl, st (st M 61 10 (nI k)) 61 11 (nI p)) ∧ k ≠ 0 ∧ k = (run tx (tl - fr) fr Q).1 ∧ p = (run tx (tl - fr) fr Q).2.1)) := by
          intro hr
          rw [hr, if_neg (by decide)] at hst
          unfold jn_X8_readsBox_70
          rw [eadd, m_fails h.1]
          have er : run tx (tl - fr) fr Q = (2, fr + k, Qk.F) := by
            rw [q10, run_c c1.1, hst, if_neg (by show ¬ (2 = 0); omega)]
          refine ⟨_, rfl, Or.inr ⟨2, fr + k, rfl, by omega, by rw [er], by rw [er]⟩⟩
        by_cases k3 : 3 ≤ k
        · rw [if_pos (show (3 : Int32) ≤ nI k from (nI_leI (a := 3) (by decide) (by omega)).mpr k3)]
          have hrg : rgN Qk.v k (tx (fr + k) - 48) = decide (1 ≤ tx (fr + k) - 48 ∧ Qk.v (k - 3) + (tx (fr + k) - 48) ≤ 6) := by
            unfold rgN
            rw [if_neg (by omega)]
          by_cases c2 : tx (fr + k) - 48 < 1
          · rw [if_pos (show nI (tx (fr + k) - 48) < (1 : Int32) from nI_lt (b := 1) c2 (by decide))]
            exact Or.inr (bad (by rw [hrg]; simp; omega))
          · rw [if_neg (show ¬ nI (tx (fr + k) - 48) < (1 : Int32) from fun q => c2 ((nI_ltI (b := 1) (by omega) (by decide)).mp q)), show (nI (fr + k) - 3 : Int32) = nI (fr + (k - 3)) from by rw [show (3 : Int32) = nI 3 from rfl, nI_sub (by omega)]; congr 1; omega]
            obtain ⟨v3, d3⟩ := q8 (k - 3) (by omega)
            have hb3 := d3.2
            rw [(m_digit (i := fr + (k - 3)) ht htx h (by omega)).1 d3]
            simp only [Option.bind_some]
            rw [nI_add]
            by_cases c3 : tx (fr + k) - 48 + (tx (fr + (k - 3)) - 48) ≤ 6
            · rw [if_pos (show nI _ ≤ (6 : Int32) from (nI_leI (b := 6) (by omega) (by decide)).mpr c3)]
              exact Or.inl (good (by rw [hrg, v3]; simp; omega))
            · rw [if_neg (show ¬ nI _ ≤ (6 : Int32) from fun q => c3 ((nI_leI (b := 6) (by omega) (by decide)).mp q))]
              exact Or.inr (bad (by rw [hrg, v3]; simp; omega))
        · rw [if_neg (show ¬ (3 : Int32) ≤ nI k from nI_ge (b := 3) (by omega) (by decide))]
          have hrg : rgN Qk.v k (tx (fr + k) - 48) = decide (tx (fr + k) - 48 ≤ 5) := by
            unfold rgN
            rw [if_pos (by omega)]
          by_cases c2 : tx (fr + k) - 48 ≤ 5
          · rw [if_pos (show nI (tx (fr + k) - 48) ≤ (5 : Int32) from (nI_leI (b := 5) (by omega) (by decide)).mpr c2)]
            exact Or.inl (good (by rw [hrg]; simp; omega))
          · rw [if_neg (show ¬ nI (tx (fr + k) - 48) ≤ (5 : Int32) from fun q => c2 ((nI_leI (b := 5) (by omega) (by decide)).mp q))]
            exact Or.inr (bad (by rw [hrg]; simp; omega))
      · rw [dn c1]
        simp only [Option.bind_some]
        rw [if_pos trivial, m_fails h.1]
        have er : run tx (tl - fr) fr Q = (1, fr + k, Qk.F) := by
          rw [q10]
          by_cases e : fr + k < tl
          · have hn : ¬ (48 ≤ tx (fr + k) ∧ tx (fr + k) ≤ 57) := fun z => c1 ⟨e, z⟩
            have n1 : ¬ (tx (fr + k) = 32 ∧ Qk.pl ≠ 2) := by
              rintro ⟨z1, z2⟩
              by_cases k0 : k = 0
              · subst k0; exact hs (by omega) z1
              · exact z2 (q7 k0)
            have hst : stp Qk (tx (fr + k)) = (1, Qk) := by
              unfold stp
              rw [if_neg n1, if_neg q5, if_neg hn]
            rw [run_c e, hst, if_neg (by show ¬ (1 = 0); omega)]
          · have e' : fr + k = tl := by omega
            rw [e', Nat.sub_self]
            show (if Qk.pl = 1 ∨ Qk.pl = 2 then 1 else 0, tl, Qk.F) = _
            rw [if_pos ?_]
            by_cases k0 : k = 0
            · rcases hp with z | z
              · have := h0 z; omega
              · exact Or.inl ((q6 k0).trans z)
            · exact Or.inr (q7 k0)
        exact Or.inr ⟨_, rfl, Or.inr ⟨1, fr + k, rfl, by omega, by rw [er], by rw [er]⟩⟩
  · have hd : Q.dg = 0 := hQ.2.2.2.2.2.2.2.1 (by omega)
    exact ⟨Q, hQ, hd, rfl, rfl, by omega, fun _ => rfl, fun z => absurd rfl z, fun j hj => by omega, by omega, by rw [Nat.add_zero]⟩
