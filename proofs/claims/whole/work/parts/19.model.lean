/-- the addresses of all cells: the class's, the reference's object, its arrays -/
def ad71 (ad : Nat → Nat) (l : List Nat) : Nat → Nat := fun k => if k < 61 then ad k else l.getD (k - 61) 0
theorem ad71_lo {ad : Nat → Nat} {l : List Nat} {k : Nat} (h : k < 61) : ad71 ad l k = ad k := by unfold ad71; rw [if_pos h]
theorem rd_lo {G : E3} {ad ad2 : Nat → Nat} {A A2 : Nat → Prop} (h : ∀ k, k < 61 → ad2 k = ad k) (f : Nat → Int32) : ∀ k, k < 61 → k ≠ 22 → rd (mkX G ad2 A2) k f = rd (mkX G ad A) k f := by
  intro k hk hn
  match k, hk, hn with
  | 0, _, _ => show eRai (mkX G ad2 A2) f = eRai (mkX G ad A) f; unfold eRai; simp only [En.ad]; rw [h 1 (by decide), h 4 (by decide), h 9 (by decide), h 14 (by decide), h 21 (by decide), h 47 (by decide), h 51 (by decide), h 53 (by decide), h 56 (by decide)]
  | 1, _, _ => show eFr (mkX G ad2 A2) 1 f = eFr (mkX G ad A) 1 f; unfold eFr; simp only [En.ad]; rw [h 2 (by decide), h 3 (by decide)]
  | 2, _, _ => rfl
  | 3, _, _ => rfl
  | 4, _, _ => show eMea (mkX G ad2 A2) f = eMea (mkX G ad A) f; unfold eMea; simp only [En.ad]; rw [h 5 (by decide), h 6 (by decide), h 7 (by decide), h 8 (by decide)]
  | 5, _, _ => rfl
  | 6, _, _ => rfl
  | 7, _, _ => rfl
  | 8, _, _ => rfl
  | 9, _, _ => show eRe (mkX G ad2 A2) 9 f = eRe (mkX G ad A) 9 f; unfold eRe; simp only [En.ad]; rw [h 10 (by decide), h 11 (by decide), h 12 (by decide), h 13 (by decide)]
  | 10, _, _ => rfl
  | 11, _, _ => rfl
  | 12, _, _ => rfl
  | 13, _, _ => rfl
  | 14, _, _ => show ePla (mkX G ad2 A2) f = ePla (mkX G ad A) f; unfold ePla; simp only [En.ad]; rw [h 15 (by decide), h 16 (by decide), h 17 (by decide), h 18 (by decide), h 9 (by decide), h 19 (by decide), h 20 (by decide)]
  | 15, _, _ => rfl
  | 16, _, _ => rfl
  | 17, _, _ => rfl
  | 18, _, _ => rfl
  | 19, _, _ => rfl
  | 20, _, _ => rfl
  | 21, _, _ => show eHis (mkX G ad2 A2) f = eHis (mkX G ad A) f; unfold eHis; simp only [En.ad]; rw [h 22 (by decide)]
  | 22, _, hn => exact absurd rfl hn
  | 23, _, _ => show eFr (mkX G ad2 A2) 23 f = eFr (mkX G ad A) 23 f; unfold eFr; simp only [En.ad]; rw [h 24 (by decide), h 25 (by decide)]
  | 24, _, _ => rfl
  | 25, _, _ => rfl
  | 26, _, _ => show eFr (mkX G ad2 A2) 26 f = eFr (mkX G ad A) 26 f; unfold eFr; simp only [En.ad]; rw [h 27 (by decide), h 28 (by decide)]
  | 27, _, _ => rfl
  | 28, _, _ => rfl
  | 29, _, _ => show eFr (mkX G ad2 A2) 29 f = eFr (mkX G ad A) 29 f; unfold eFr; simp only [En.ad]; rw [h 30 (by decide), h 31 (by decide)]
  | 30, _, _ => rfl
  | 31, _, _ => rfl
  | 32, _, _ => show eFr (mkX G ad2 A2) 32 f = eFr (mkX G ad A) 32 f; unfold eFr; simp only [En.ad]; rw [h 33 (by decide), h 34 (by decide)]
  | 33, _, _ => rfl
  | 34, _, _ => rfl
  | 35, _, _ => show eFr (mkX G ad2 A2) 35 f = eFr (mkX G ad A) 35 f; unfold eFr; simp only [En.ad]; rw [h 36 (by decide), h 37 (by decide)]
  | 36, _, _ => rfl
  | 37, _, _ => rfl
  | 38, _, _ => show eFr (mkX G ad2 A2) 38 f = eFr (mkX G ad A) 38 f; unfold eFr; simp only [En.ad]; rw [h 39 (by decide), h 40 (by decide)]
  | 39, _, _ => rfl
  | 40, _, _ => rfl
  | 41, _, _ => show eFr (mkX G ad2 A2) 41 f = eFr (mkX G ad A) 41 f; unfold eFr; simp only [En.ad]; rw [h 42 (by decide), h 43 (by decide)]
  | 42, _, _ => rfl
  | 43, _, _ => rfl
  | 44, _, _ => show eFr (mkX G ad2 A2) 44 f = eFr (mkX G ad A) 44 f; unfold eFr; simp only [En.ad]; rw [h 45 (by decide), h 46 (by decide)]
  | 45, _, _ => rfl
  | 46, _, _ => rfl
  | 47, _, _ => show eTex (mkX G ad2 A2) f = eTex (mkX G ad A) f; unfold eTex; simp only [En.ad]; rw [h 48 (by decide), h 49 (by decide)]
  | 48, _, _ => rfl
  | 49, _, _ => show eBx (mkX G ad2 A2) 49 f = eBx (mkX G ad A) 49 f; unfold eBx; simp only [En.ad]; rw [h 50 (by decide)]
  | 50, _, _ => rfl
  | 51, _, _ => show eBx (mkX G ad2 A2) 51 f = eBx (mkX G ad A) 51 f; unfold eBx; simp only [En.ad]; rw [h 52 (by decide)]
  | 52, _, _ => rfl
  | 53, _, _ => show eFr (mkX G ad2 A2) 53 f = eFr (mkX G ad A) 53 f; unfold eFr; simp only [En.ad]; rw [h 54 (by decide), h 55 (by decide)]
  | 54, _, _ => rfl
  | 55, _, _ => rfl
  | 56, _, _ => show eRe (mkX G ad2 A2) 56 f = eRe (mkX G ad A) 56 f; unfold eRe; simp only [En.ad]; rw [h 57 (by decide), h 58 (by decide), h 59 (by decide), h 60 (by decide)]
  | 57, _, _ => rfl
  | 58, _, _ => rfl
  | 59, _, _ => rfl
  | 60, _, _ => rfl
  | k + 61, hk, _ => exact absurd hk (by omega)
theorem at22 {G : E3} {ad ad2 : Nat → Nat} {A A2 : Nat → Prop} (h : ∀ k, k < 61 → ad2 k = ad k) {f : Nat → Int32} {H : Heap} {a : Nat} (hP : va_at G.1 cls (a, rd (mkX G ad A) 22 f) H) : va_at G.1 cls (a, rd (mkX G ad2 A2) 22 f) H := by
  have hP : H[a]? = some (vp_cell G.2.2.2 (8, .inr (.inr (.inr (.inr (fun j => some (ad (23 + 3 * j)))))))) := hP
  show H[a]? = some (vp_cell G.2.2.2 (8, .inr (.inr (.inr (.inr (fun j => some (ad2 (23 + 3 * j))))))))
  rw [hP, vp_cell_q8 (f := fun j => some (ad (23 + 3 * j))) (f2 := fun j => some (ad2 (23 + 3 * j))) (fun j hj => by show some _ = some _; rw [h (23 + 3 * j) (by omega)])]
theorem pl_inj {i j : Nat} (hi : i < 71) (hj : j < 71) (h : (if i < 61 then i + 1 else if i = 61 then 0 else i) = (if j < 61 then j + 1 else if j = 61 then 0 else j)) : i = j := by
  by_cases c1 : i < 61 <;> by_cases c2 : j < 61
  · rw [if_pos c1, if_pos c2] at h; omega
  · rw [if_pos c1, if_neg c2] at h
    by_cases c4 : j = 61
    · rw [if_pos c4] at h; omega
    · rw [if_neg c4] at h; omega
  · rw [if_neg c1, if_pos c2] at h
    by_cases c3 : i = 61
    · rw [if_pos c3] at h; omega
    · rw [if_neg c3] at h; omega
  · rw [if_neg c1, if_neg c2] at h
    by_cases c3 : i = 61 <;> by_cases c4 : j = 61
    · omega
    · rw [if_pos c3, if_neg c4] at h; omega
    · rw [if_neg c3, if_pos c4] at h; omega
    · rw [if_neg c3, if_neg c4] at h; omega
def pX8 (G : E3) (ad : Nat → Nat) (M1 : Mem) (h0 : Nat) (w : va_W) : Prop := ∃ ad2 : Nat → Nat, (∀ k, k < 61 → ad2 k = ad k) ∧ ad2 61 = h0 ∧ w = wsL (mkX G ad2 (fun _ => True)) M1
theorem hd_X8_init : Hd yX8_init 0 := by decide +kernel
theorem dX8_init_0 : decode cX8_init 0 = .ok (.aload_n 0, 1) := by decide +kernel
theorem dX8_init_1 : decode cX8_init 1 = .ok (.invokespecial 1, 3) := by decide +kernel
theorem dX8_init_4 : decode cX8_init 4 = .ok (.aload_n 0, 1) := by decide +kernel
theorem dX8_init_5 : decode cX8_init 5 = .ok (.sipush 2270, 3) := by decide +kernel
theorem dX8_init_8 : decode cX8_init 8 = .ok (.newarray .int, 2) := by decide +kernel
theorem dX8_init_10 : decode cX8_init 10 = .ok (.putfield 7, 3) := by decide +kernel
theorem dX8_init_13 : decode cX8_init 13 = .ok (.aload_n 0, 1) := by decide +kernel
theorem dX8_init_14 : decode cX8_init 14 = .ok (.bipush 48, 2) := by decide +kernel
theorem dX8_init_16 : decode cX8_init 16 = .ok (.newarray .int, 2) := by decide +kernel
theorem dX8_init_18 : decode cX8_init 18 = .ok (.putfield 13, 3) := by decide +kernel
theorem dX8_init_21 : decode cX8_init 21 = .ok (.aload_n 0, 1) := by decide +kernel
theorem dX8_init_22 : decode cX8_init 22 = .ok (.bipush 8, 2) := by decide +kernel
theorem dX8_init_24 : decode cX8_init 24 = .ok (.newarray .int, 2) := by decide +kernel
theorem dX8_init_26 : decode cX8_init 26 = .ok (.putfield 16, 3) := by decide +kernel
theorem dX8_init_29 : decode cX8_init 29 = .ok (.aload_n 0, 1) := by decide +kernel
theorem dX8_init_30 : decode cX8_init 30 = .ok (.bipush 8, 2) := by decide +kernel
theorem dX8_init_32 : decode cX8_init 32 = .ok (.newarray .boolean, 2) := by decide +kernel
theorem dX8_init_34 : decode cX8_init 34 = .ok (.putfield 19, 3) := by decide +kernel
theorem dX8_init_37 : decode cX8_init 37 = .ok (.aload_n 0, 1) := by decide +kernel
theorem dX8_init_38 : decode cX8_init 38 = .ok (.sipush 256, 3) := by decide +kernel
theorem dX8_init_41 : decode cX8_init 41 = .ok (.newarray .int, 2) := by decide +kernel
theorem dX8_init_43 : decode cX8_init 43 = .ok (.putfield 23, 3) := by decide +kernel
theorem dX8_init_46 : decode cX8_init 46 = .ok (.aload_n 0, 1) := by decide +kernel
theorem dX8_init_47 : decode cX8_init 47 = .ok (.sipush 256, 3) := by decide +kernel
theorem dX8_init_50 : decode cX8_init 50 = .ok (.newarray .int, 2) := by decide +kernel
theorem dX8_init_52 : decode cX8_init 52 = .ok (.putfield 26, 3) := by decide +kernel
theorem dX8_init_55 : decode cX8_init 55 = .ok (.aload_n 0, 1) := by decide +kernel
theorem dX8_init_56 : decode cX8_init 56 = .ok (.sipush 256, 3) := by decide +kernel
theorem dX8_init_59 : decode cX8_init 59 = .ok (.newarray .boolean, 2) := by decide +kernel
theorem dX8_init_61 : decode cX8_init 61 = .ok (.putfield 29, 3) := by decide +kernel
theorem dX8_init_64 : decode cX8_init 64 = .ok (.aload_n 0, 1) := by decide +kernel
theorem dX8_init_65 : decode cX8_init 65 = .ok (.bipush 80, 2) := by decide +kernel
theorem dX8_init_67 : decode cX8_init 67 = .ok (.newarray .int, 2) := by decide +kernel
theorem dX8_init_69 : decode cX8_init 69 = .ok (.putfield 32, 3) := by decide +kernel
theorem dX8_init_72 : decode cX8_init 72 = .ok (.aload_n 0, 1) := by decide +kernel
theorem dX8_init_73 : decode cX8_init 73 = .ok (.sipush 216, 3) := by decide +kernel
theorem dX8_init_76 : decode cX8_init 76 = .ok (.newarray .boolean, 2) := by decide +kernel
theorem dX8_init_78 : decode cX8_init 78 = .ok (.putfield 35, 3) := by decide +kernel
theorem dX8_init_81 : decode cX8_init 81 = .ok (.aload_n 0, 1) := by decide +kernel
theorem dX8_init_82 : decode cX8_init 82 = .ok (.invokevirtual 38, 3) := by decide +kernel
theorem dX8_init_85 : decode cX8_init 85 = .ok (.return_, 1) := by decide +kernel
set_option maxHeartbeats 4000000 in
set_option maxRecDepth 100000 in
theorem i_X8 {l : Launch} {G : E3} (ad : Nat → Nat) (g : Nat) (M1 : Mem) (hf : fn_X8_lays g M0 = some M1) (h0 sz : Nat) : Ct l G yX8_init cX8_init 1 4 9 3398 95 [.ref h0] ((h0, .inr (8, [.null, .int 0, .null, .null, .null, .null, .null, .null, .null, .int 0, .int 0, .int 0, .null, .long 0])) :: cwL G ad) sz (pX8 G ad M1 h0) := by
  refine Met.ofW (cc := cX8_init) (maxL := 1) (ret := none) (by decide) rfl ?_
  intro p e s m args below meth c s₁ B hml hv
  obtain ⟨rfl, hsz, hP, hK, hD0⟩ := hv
  have hx := B.exec
  have hb := B.bytes
  have hr := B.returns
  have hlocks := B.notSynchronized
  have hts : ∀ w ∈ lw_u, w.before ([.ref h0] : List Value).toArray s = true := fun w hw => atoms_spec (ws := Cond.code yX8_init cX8_init 1 none :: lw_u) B.pre w (List.mem_cons_of_mem _ hw)
  have hown : s.vm.findClass RX8 = some m.cls := findClass_of_methodNamed B.named
  have hin : meth.name = "<init>" := (name_of_methodNamed B.named B.method).1
  subst hsz
  have hD := hD0.self (sz := s.heap.size)
  have hA : ∀ q : Nat, s.heap.size ≤ q → (va_A ((h0, .inr (8, [.null, .int 0, .null, .null, .null, .null, .null, .null, .null, .int 0, .int 0, .int 0, .null, .long 0])) :: cwL G ad) s.heap.size) q := fun q h => Or.inr h
  have hS : va_S (va_A ((h0, .inr (8, [.null, .int 0, .null, .null, .null, .null, .null, .null, .null, .int 0, .int 0, .int 0, .null, .long 0])) :: cwL G ad) s.heap.size) s.heap s.heap [] := va_S.rf
  have hP : va_P G.1 cls ((h0, .inr (8, [.null, .int 0, .null, .null, .null, .null, .null, .null, .null, .int 0, .int 0, .int 0, .null, .long 0])) :: cwL G ad) s.heap := hP
  have hl := lv_entry ([.ref h0]) (n := 1) (Nat.le_of_ble_eq_true rfl)
  rw [lg_entry_eq]
  generalize (lg_sl ([.ref h0]) ++ List.replicate (1 - (lg_sl ([.ref h0])).length) Slot.unset).toArray = ls at hl ⊢
  have hl : lv_has ls 1 [(0, .ref h0)] := hl
  refine lv_aload_n hx hb dX8_init_0 rfl (lv_at hl 0 rfl) ?_
  refine W.objInit hx hb hown (hts _ wd_3_170) (hts _ wd_1_19) (hts _ wd_1_20) rfl (by rw [hml]; exact hl.1) rfl dX8_init_1 (Nat.le_of_ble_eq_true rfl) (Nat.le_of_ble_eq_true rfl) ?_
  refine W.eq (g2 := F0 m 4 ls []) rfl ?_
  refine lv_aload_n hx hb dX8_init_4 rfl (lv_at hl 0 rfl) ?_
  refine lv_sipush (v := (2270 : Int32)) hx hb dX8_init_5 (by decide) ?_
  refine nwI hx hb hts hK hP hD hS hA 2270 (by decide) (by decide) (Nat.le_of_ble_eq_true rfl) (Nat.le_of_ble_eq_true rfl) (Nat.le_of_ble_eq_true rfl) dX8_init_8 (fun b1 H hP hD hS => ?_)
  have hP : va_P G.1 cls ((h0, .inr (8, [.null, .int 0, .null, .null, .null, .null, .null, .null, .null, .int 0, .int 0, .int 0, .null, .long 0])) :: (cwL G ad ++ [(b1, .inl (G.2.1, 2270, .inl (fun _ => 0)))])) H := hP
  have hD : va_D (va_A ((h0, .inr (8, [.null, .int 0, .null, .null, .null, .null, .null, .null, .null, .int 0, .int 0, .int 0, .null, .long 0])) :: cwL G ad) s.heap.size) ((h0, .inr (8, [.null, .int 0, .null, .null, .null, .null, .null, .null, .null, .int 0, .int 0, .int 0, .null, .long 0])) :: (cwL G ad ++ [(b1, .inl (G.2.1, 2270, .inl (fun _ => 0)))])) := hD
  refine va_putF (D := G.1) (ci := 8) (v := .ref b1) (ty := .array .int) (C := RX8) (T := TX8) (N := 14) hx hb hts innX8 tyX8 tyX8_ok nmX8 hown hK.1 hP hD hS 0 rfl rfl 0 (by decide) (hts _ wd_3_192) (fun _ h9 => h9) rfl hin rfl (by decide +kernel) rfl rfl (Nat.le_of_ble_eq_true rfl) dX8_init_10 (fun H locs hP hD hS => ?_)
  have hP : va_P G.1 cls ((h0, .inr (8, [.ref b1, .int 0, .null, .null, .null, .null, .null, .null, .null, .int 0, .int 0, .int 0, .null, .long 0])) :: (cwL G ad ++ [(b1, .inl (G.2.1, 2270, .inl (fun _ => 0)))])) H := hP
  have hD : va_D (va_A ((h0, .inr (8, [.null, .int 0, .null, .null, .null, .null, .null, .null, .null, .int 0, .int 0, .int 0, .null, .long 0])) :: cwL G ad) s.heap.size) ((h0, .inr (8, [.ref b1, .int 0, .null, .null, .null, .null, .null, .null, .null, .int 0, .int 0, .int 0, .null, .long 0])) :: (cwL G ad ++ [(b1, .inl (G.2.1, 2270, .inl (fun _ => 0)))])) := hD
  refine lv_aload_n hx hb dX8_init_13 rfl (lv_at hl 0 rfl) ?_
  refine lv_bipush (v := (48 : Int32)) hx hb dX8_init_14 (by decide) ?_
  refine nwI hx hb hts hK hP hD hS hA 48 (by decide) (by decide) (Nat.le_of_ble_eq_true rfl) (Nat.le_of_ble_eq_true rfl) (Nat.le_of_ble_eq_true rfl) dX8_init_16 (fun b2 H hP hD hS => ?_)
  have hP : va_P G.1 cls ((h0, .inr (8, [.ref b1, .int 0, .null, .null, .null, .null, .null, .null, .null, .int 0, .int 0, .int 0, .null, .long 0])) :: ((cwL G ad ++ [(b1, .inl (G.2.1, 2270, .inl (fun _ => 0)))]) ++ [(b2, .inl (G.2.1, 48, .inl (fun _ => 0)))])) H := hP
  have hD : va_D (va_A ((h0, .inr (8, [.null, .int 0, .null, .null, .null, .null, .null, .null, .null, .int 0, .int 0, .int 0, .null, .long 0])) :: cwL G ad) s.heap.size) ((h0, .inr (8, [.ref b1, .int 0, .null, .null, .null, .null, .null, .null, .null, .int 0, .int 0, .int 0, .null, .long 0])) :: ((cwL G ad ++ [(b1, .inl (G.2.1, 2270, .inl (fun _ => 0)))]) ++ [(b2, .inl (G.2.1, 48, .inl (fun _ => 0)))])) := hD
  refine va_putF (D := G.1) (ci := 8) (v := .ref b2) (ty := .array .int) (C := RX8) (T := TX8) (N := 14) hx hb hts innX8 tyX8 tyX8_ok nmX8 hown hK.1 hP hD hS 0 rfl rfl 2 (by decide) (hts _ wd_3_194) (fun _ h9 => h9) rfl hin rfl (by decide +kernel) rfl rfl (Nat.le_of_ble_eq_true rfl) dX8_init_18 (fun H locs hP hD hS => ?_)
  have hP : va_P G.1 cls ((h0, .inr (8, [.ref b1, .int 0, .ref b2, .null, .null, .null, .null, .null, .null, .int 0, .int 0, .int 0, .null, .long 0])) :: ((cwL G ad ++ [(b1, .inl (G.2.1, 2270, .inl (fun _ => 0)))]) ++ [(b2, .inl (G.2.1, 48, .inl (fun _ => 0)))])) H := hP
  have hD : va_D (va_A ((h0, .inr (8, [.null, .int 0, .null, .null, .null, .null, .null, .null, .null, .int 0, .int 0, .int 0, .null, .long 0])) :: cwL G ad) s.heap.size) ((h0, .inr (8, [.ref b1, .int 0, .ref b2, .null, .null, .null, .null, .null, .null, .int 0, .int 0, .int 0, .null, .long 0])) :: ((cwL G ad ++ [(b1, .inl (G.2.1, 2270, .inl (fun _ => 0)))]) ++ [(b2, .inl (G.2.1, 48, .inl (fun _ => 0)))])) := hD
  refine lv_aload_n hx hb dX8_init_21 rfl (lv_at hl 0 rfl) ?_
  refine lv_bipush (v := (8 : Int32)) hx hb dX8_init_22 (by decide) ?_
  refine nwI hx hb hts hK hP hD hS hA 8 (by decide) (by decide) (Nat.le_of_ble_eq_true rfl) (Nat.le_of_ble_eq_true rfl) (Nat.le_of_ble_eq_true rfl) dX8_init_24 (fun b3 H hP hD hS => ?_)
  have hP : va_P G.1 cls ((h0, .inr (8, [.ref b1, .int 0, .ref b2, .null, .null, .null, .null, .null, .null, .int 0, .int 0, .int 0, .null, .long 0])) :: (((cwL G ad ++ [(b1, .inl (G.2.1, 2270, .inl (fun _ => 0)))]) ++ [(b2, .inl (G.2.1, 48, .inl (fun _ => 0)))]) ++ [(b3, .inl (G.2.1, 8, .inl (fun _ => 0)))])) H := hP
  have hD : va_D (va_A ((h0, .inr (8, [.null, .int 0, .null, .null, .null, .null, .null, .null, .null, .int 0, .int 0, .int 0, .null, .long 0])) :: cwL G ad) s.heap.size) ((h0, .inr (8, [.ref b1, .int 0, .ref b2, .null, .null, .null, .null, .null, .null, .int 0, .int 0, .int 0, .null, .long 0])) :: (((cwL G ad ++ [(b1, .inl (G.2.1, 2270, .inl (fun _ => 0)))]) ++ [(b2, .inl (G.2.1, 48, .inl (fun _ => 0)))]) ++ [(b3, .inl (G.2.1, 8, .inl (fun _ => 0)))])) := hD
  refine va_putF (D := G.1) (ci := 8) (v := .ref b3) (ty := .array .int) (C := RX8) (T := TX8) (N := 14) hx hb hts innX8 tyX8 tyX8_ok nmX8 hown hK.1 hP hD hS 0 rfl rfl 3 (by decide) (hts _ wd_3_195) (fun _ h9 => h9) rfl hin rfl (by decide +kernel) rfl rfl (Nat.le_of_ble_eq_true rfl) dX8_init_26 (fun H locs hP hD hS => ?_)
  have hP : va_P G.1 cls ((h0, .inr (8, [.ref b1, .int 0, .ref b2, .ref b3, .null, .null, .null, .null, .null, .int 0, .int 0, .int 0, .null, .long 0])) :: (((cwL G ad ++ [(b1, .inl (G.2.1, 2270, .inl (fun _ => 0)))]) ++ [(b2, .inl (G.2.1, 48, .inl (fun _ => 0)))]) ++ [(b3, .inl (G.2.1, 8, .inl (fun _ => 0)))])) H := hP
  have hD : va_D (va_A ((h0, .inr (8, [.null, .int 0, .null, .null, .null, .null, .null, .null, .null, .int 0, .int 0, .int 0, .null, .long 0])) :: cwL G ad) s.heap.size) ((h0, .inr (8, [.ref b1, .int 0, .ref b2, .ref b3, .null, .null, .null, .null, .null, .int 0, .int 0, .int 0, .null, .long 0])) :: (((cwL G ad ++ [(b1, .inl (G.2.1, 2270, .inl (fun _ => 0)))]) ++ [(b2, .inl (G.2.1, 48, .inl (fun _ => 0)))]) ++ [(b3, .inl (G.2.1, 8, .inl (fun _ => 0)))])) := hD
  refine lv_aload_n hx hb dX8_init_29 rfl (lv_at hl 0 rfl) ?_
  refine lv_bipush (v := (8 : Int32)) hx hb dX8_init_30 (by decide) ?_
  refine nwZ hx hb hts hK hP hD hS hA 8 (by decide) (by decide) (Nat.le_of_ble_eq_true rfl) (Nat.le_of_ble_eq_true rfl) (Nat.le_of_ble_eq_true rfl) dX8_init_32 (fun b4 H hP hD hS => ?_)
  have hP : va_P G.1 cls ((h0, .inr (8, [.ref b1, .int 0, .ref b2, .ref b3, .null, .null, .null, .null, .null, .int 0, .int 0, .int 0, .null, .long 0])) :: ((((cwL G ad ++ [(b1, .inl (G.2.1, 2270, .inl (fun _ => 0)))]) ++ [(b2, .inl (G.2.1, 48, .inl (fun _ => 0)))]) ++ [(b3, .inl (G.2.1, 8, .inl (fun _ => 0)))]) ++ [(b4, .inl (G.2.2.1, 8, .inl (fun _ => 0)))])) H := hP
  have hD : va_D (va_A ((h0, .inr (8, [.null, .int 0, .null, .null, .null, .null, .null, .null, .null, .int 0, .int 0, .int 0, .null, .long 0])) :: cwL G ad) s.heap.size) ((h0, .inr (8, [.ref b1, .int 0, .ref b2, .ref b3, .null, .null, .null, .null, .null, .int 0, .int 0, .int 0, .null, .long 0])) :: ((((cwL G ad ++ [(b1, .inl (G.2.1, 2270, .inl (fun _ => 0)))]) ++ [(b2, .inl (G.2.1, 48, .inl (fun _ => 0)))]) ++ [(b3, .inl (G.2.1, 8, .inl (fun _ => 0)))]) ++ [(b4, .inl (G.2.2.1, 8, .inl (fun _ => 0)))])) := hD
  refine va_putF (D := G.1) (ci := 8) (v := .ref b4) (ty := .array .boolean) (C := RX8) (T := TX8) (N := 14) hx hb hts innX8 tyX8 tyX8_ok nmX8 hown hK.1 hP hD hS 0 rfl rfl 4 (by decide) (hts _ wd_3_196) (fun _ h9 => h9) rfl hin rfl (by decide +kernel) rfl rfl (Nat.le_of_ble_eq_true rfl) dX8_init_34 (fun H locs hP hD hS => ?_)
  have hP : va_P G.1 cls ((h0, .inr (8, [.ref b1, .int 0, .ref b2, .ref b3, .ref b4, .null, .null, .null, .null, .int 0, .int 0, .int 0, .null, .long 0])) :: ((((cwL G ad ++ [(b1, .inl (G.2.1, 2270, .inl (fun _ => 0)))]) ++ [(b2, .inl (G.2.1, 48, .inl (fun _ => 0)))]) ++ [(b3, .inl (G.2.1, 8, .inl (fun _ => 0)))]) ++ [(b4, .inl (G.2.2.1, 8, .inl (fun _ => 0)))])) H := hP
  have hD : va_D (va_A ((h0, .inr (8, [.null, .int 0, .null, .null, .null, .null, .null, .null, .null, .int 0, .int 0, .int 0, .null, .long 0])) :: cwL G ad) s.heap.size) ((h0, .inr (8, [.ref b1, .int 0, .ref b2, .ref b3, .ref b4, .null, .null, .null, .null, .int 0, .int 0, .int 0, .null, .long 0])) :: ((((cwL G ad ++ [(b1, .inl (G.2.1, 2270, .inl (fun _ => 0)))]) ++ [(b2, .inl (G.2.1, 48, .inl (fun _ => 0)))]) ++ [(b3, .inl (G.2.1, 8, .inl (fun _ => 0)))]) ++ [(b4, .inl (G.2.2.1, 8, .inl (fun _ => 0)))])) := hD
  refine lv_aload_n hx hb dX8_init_37 rfl (lv_at hl 0 rfl) ?_
  refine lv_sipush (v := (256 : Int32)) hx hb dX8_init_38 (by decide) ?_
  refine nwI hx hb hts hK hP hD hS hA 256 (by decide) (by decide) (Nat.le_of_ble_eq_true rfl) (Nat.le_of_ble_eq_true rfl) (Nat.le_of_ble_eq_true rfl) dX8_init_41 (fun b5 H hP hD hS => ?_)
  have hP : va_P G.1 cls ((h0, .inr (8, [.ref b1, .int 0, .ref b2, .ref b3, .ref b4, .null, .null, .null, .null, .int 0, .int 0, .int 0, .null, .long 0])) :: (((((cwL G ad ++ [(b1, .inl (G.2.1, 2270, .inl (fun _ => 0)))]) ++ [(b2, .inl (G.2.1, 48, .inl (fun _ => 0)))]) ++ [(b3, .inl (G.2.1, 8, .inl (fun _ => 0)))]) ++ [(b4, .inl (G.2.2.1, 8, .inl (fun _ => 0)))]) ++ [(b5, .inl (G.2.1, 256, .inl (fun _ => 0)))])) H := hP
  have hD : va_D (va_A ((h0, .inr (8, [.null, .int 0, .null, .null, .null, .null, .null, .null, .null, .int 0, .int 0, .int 0, .null, .long 0])) :: cwL G ad) s.heap.size) ((h0, .inr (8, [.ref b1, .int 0, .ref b2, .ref b3, .ref b4, .null, .null, .null, .null, .int 0, .int 0, .int 0, .null, .long 0])) :: (((((cwL G ad ++ [(b1, .inl (G.2.1, 2270, .inl (fun _ => 0)))]) ++ [(b2, .inl (G.2.1, 48, .inl (fun _ => 0)))]) ++ [(b3, .inl (G.2.1, 8, .inl (fun _ => 0)))]) ++ [(b4, .inl (G.2.2.1, 8, .inl (fun _ => 0)))]) ++ [(b5, .inl (G.2.1, 256, .inl (fun _ => 0)))])) := hD
  refine va_putF (D := G.1) (ci := 8) (v := .ref b5) (ty := .array .int) (C := RX8) (T := TX8) (N := 14) hx hb hts innX8 tyX8 tyX8_ok nmX8 hown hK.1 hP hD hS 0 rfl rfl 5 (by decide) (hts _ wd_3_197) (fun _ h9 => h9) rfl hin rfl (by decide +kernel) rfl rfl (Nat.le_of_ble_eq_true rfl) dX8_init_43 (fun H locs hP hD hS => ?_)
  have hP : va_P G.1 cls ((h0, .inr (8, [.ref b1, .int 0, .ref b2, .ref b3, .ref b4, .ref b5, .null, .null, .null, .int 0, .int 0, .int 0, .null, .long 0])) :: (((((cwL G ad ++ [(b1, .inl (G.2.1, 2270, .inl (fun _ => 0)))]) ++ [(b2, .inl (G.2.1, 48, .inl (fun _ => 0)))]) ++ [(b3, .inl (G.2.1, 8, .inl (fun _ => 0)))]) ++ [(b4, .inl (G.2.2.1, 8, .inl (fun _ => 0)))]) ++ [(b5, .inl (G.2.1, 256, .inl (fun _ => 0)))])) H := hP
  have hD : va_D (va_A ((h0, .inr (8, [.null, .int 0, .null, .null, .null, .null, .null, .null, .null, .int 0, .int 0, .int 0, .null, .long 0])) :: cwL G ad) s.heap.size) ((h0, .inr (8, [.ref b1, .int 0, .ref b2, .ref b3, .ref b4, .ref b5, .null, .null, .null, .int 0, .int 0, .int 0, .null, .long 0])) :: (((((cwL G ad ++ [(b1, .inl (G.2.1, 2270, .inl (fun _ => 0)))]) ++ [(b2, .inl (G.2.1, 48, .inl (fun _ => 0)))]) ++ [(b3, .inl (G.2.1, 8, .inl (fun _ => 0)))]) ++ [(b4, .inl (G.2.2.1, 8, .inl (fun _ => 0)))]) ++ [(b5, .inl (G.2.1, 256, .inl (fun _ => 0)))])) := hD
  refine lv_aload_n hx hb dX8_init_46 rfl (lv_at hl 0 rfl) ?_
  refine lv_sipush (v := (256 : Int32)) hx hb dX8_init_47 (by decide) ?_
  refine nwI hx hb hts hK hP hD hS hA 256 (by decide) (by decide) (Nat.le_of_ble_eq_true rfl) (Nat.le_of_ble_eq_true rfl) (Nat.le_of_ble_eq_true rfl) dX8_init_50 (fun b6 H hP hD hS => ?_)
  have hP : va_P G.1 cls ((h0, .inr (8, [.ref b1, .int 0, .ref b2, .ref b3, .ref b4, .ref b5, .null, .null, .null, .int 0, .int 0, .int 0, .null, .long 0])) :: ((((((cwL G ad ++ [(b1, .inl (G.2.1, 2270, .inl (fun _ => 0)))]) ++ [(b2, .inl (G.2.1, 48, .inl (fun _ => 0)))]) ++ [(b3, .inl (G.2.1, 8, .inl (fun _ => 0)))]) ++ [(b4, .inl (G.2.2.1, 8, .inl (fun _ => 0)))]) ++ [(b5, .inl (G.2.1, 256, .inl (fun _ => 0)))]) ++ [(b6, .inl (G.2.1, 256, .inl (fun _ => 0)))])) H := hP
  have hD : va_D (va_A ((h0, .inr (8, [.null, .int 0, .null, .null, .null, .null, .null, .null, .null, .int 0, .int 0, .int 0, .null, .long 0])) :: cwL G ad) s.heap.size) ((h0, .inr (8, [.ref b1, .int 0, .ref b2, .ref b3, .ref b4, .ref b5, .null, .null, .null, .int 0, .int 0, .int 0, .null, .long 0])) :: ((((((cwL G ad ++ [(b1, .inl (G.2.1, 2270, .inl (fun _ => 0)))]) ++ [(b2, .inl (G.2.1, 48, .inl (fun _ => 0)))]) ++ [(b3, .inl (G.2.1, 8, .inl (fun _ => 0)))]) ++ [(b4, .inl (G.2.2.1, 8, .inl (fun _ => 0)))]) ++ [(b5, .inl (G.2.1, 256, .inl (fun _ => 0)))]) ++ [(b6, .inl (G.2.1, 256, .inl (fun _ => 0)))])) := hD
  refine va_putF (D := G.1) (ci := 8) (v := .ref b6) (ty := .array .int) (C := RX8) (T := TX8) (N := 14) hx hb hts innX8 tyX8 tyX8_ok nmX8 hown hK.1 hP hD hS 0 rfl rfl 6 (by decide) (hts _ wd_3_198) (fun _ h9 => h9) rfl hin rfl (by decide +kernel) rfl rfl (Nat.le_of_ble_eq_true rfl) dX8_init_52 (fun H locs hP hD hS => ?_)
  have hP : va_P G.1 cls ((h0, .inr (8, [.ref b1, .int 0, .ref b2, .ref b3, .ref b4, .ref b5, .ref b6, .null, .null, .int 0, .int 0, .int 0, .null, .long 0])) :: ((((((cwL G ad ++ [(b1, .inl (G.2.1, 2270, .inl (fun _ => 0)))]) ++ [(b2, .inl (G.2.1, 48, .inl (fun _ => 0)))]) ++ [(b3, .inl (G.2.1, 8, .inl (fun _ => 0)))]) ++ [(b4, .inl (G.2.2.1, 8, .inl (fun _ => 0)))]) ++ [(b5, .inl (G.2.1, 256, .inl (fun _ => 0)))]) ++ [(b6, .inl (G.2.1, 256, .inl (fun _ => 0)))])) H := hP
  have hD : va_D (va_A ((h0, .inr (8, [.null, .int 0, .null, .null, .null, .null, .null, .null, .null, .int 0, .int 0, .int 0, .null, .long 0])) :: cwL G ad) s.heap.size) ((h0, .inr (8, [.ref b1, .int 0, .ref b2, .ref b3, .ref b4, .ref b5, .ref b6, .null, .null, .int 0, .int 0, .int 0, .null, .long 0])) :: ((((((cwL G ad ++ [(b1, .inl (G.2.1, 2270, .inl (fun _ => 0)))]) ++ [(b2, .inl (G.2.1, 48, .inl (fun _ => 0)))]) ++ [(b3, .inl (G.2.1, 8, .inl (fun _ => 0)))]) ++ [(b4, .inl (G.2.2.1, 8, .inl (fun _ => 0)))]) ++ [(b5, .inl (G.2.1, 256, .inl (fun _ => 0)))]) ++ [(b6, .inl (G.2.1, 256, .inl (fun _ => 0)))])) := hD
  refine lv_aload_n hx hb dX8_init_55 rfl (lv_at hl 0 rfl) ?_
  refine lv_sipush (v := (256 : Int32)) hx hb dX8_init_56 (by decide) ?_
  refine nwZ hx hb hts hK hP hD hS hA 256 (by decide) (by decide) (Nat.le_of_ble_eq_true rfl) (Nat.le_of_ble_eq_true rfl) (Nat.le_of_ble_eq_true rfl) dX8_init_59 (fun b7 H hP hD hS => ?_)
  have hP : va_P G.1 cls ((h0, .inr (8, [.ref b1, .int 0, .ref b2, .ref b3, .ref b4, .ref b5, .ref b6, .null, .null, .int 0, .int 0, .int 0, .null, .long 0])) :: (((((((cwL G ad ++ [(b1, .inl (G.2.1, 2270, .inl (fun _ => 0)))]) ++ [(b2, .inl (G.2.1, 48, .inl (fun _ => 0)))]) ++ [(b3, .inl (G.2.1, 8, .inl (fun _ => 0)))]) ++ [(b4, .inl (G.2.2.1, 8, .inl (fun _ => 0)))]) ++ [(b5, .inl (G.2.1, 256, .inl (fun _ => 0)))]) ++ [(b6, .inl (G.2.1, 256, .inl (fun _ => 0)))]) ++ [(b7, .inl (G.2.2.1, 256, .inl (fun _ => 0)))])) H := hP
  have hD : va_D (va_A ((h0, .inr (8, [.null, .int 0, .null, .null, .null, .null, .null, .null, .null, .int 0, .int 0, .int 0, .null, .long 0])) :: cwL G ad) s.heap.size) ((h0, .inr (8, [.ref b1, .int 0, .ref b2, .ref b3, .ref b4, .ref b5, .ref b6, .null, .null, .int 0, .int 0, .int 0, .null, .long 0])) :: (((((((cwL G ad ++ [(b1, .inl (G.2.1, 2270, .inl (fun _ => 0)))]) ++ [(b2, .inl (G.2.1, 48, .inl (fun _ => 0)))]) ++ [(b3, .inl (G.2.1, 8, .inl (fun _ => 0)))]) ++ [(b4, .inl (G.2.2.1, 8, .inl (fun _ => 0)))]) ++ [(b5, .inl (G.2.1, 256, .inl (fun _ => 0)))]) ++ [(b6, .inl (G.2.1, 256, .inl (fun _ => 0)))]) ++ [(b7, .inl (G.2.2.1, 256, .inl (fun _ => 0)))])) := hD
  refine va_putF (D := G.1) (ci := 8) (v := .ref b7) (ty := .array .boolean) (C := RX8) (T := TX8) (N := 14) hx hb hts innX8 tyX8 tyX8_ok nmX8 hown hK.1 hP hD hS 0 rfl rfl 7 (by decide) (hts _ wd_3_199) (fun _ h9 => h9) rfl hin rfl (by decide +kernel) rfl rfl (Nat.le_of_ble_eq_true rfl) dX8_init_61 (fun H locs hP hD hS => ?_)
  have hP : va_P G.1 cls ((h0, .inr (8, [.ref b1, .int 0, .ref b2, .ref b3, .ref b4, .ref b5, .ref b6, .ref b7, .null, .int 0, .int 0, .int 0, .null, .long 0])) :: (((((((cwL G ad ++ [(b1, .inl (G.2.1, 2270, .inl (fun _ => 0)))]) ++ [(b2, .inl (G.2.1, 48, .inl (fun _ => 0)))]) ++ [(b3, .inl (G.2.1, 8, .inl (fun _ => 0)))]) ++ [(b4, .inl (G.2.2.1, 8, .inl (fun _ => 0)))]) ++ [(b5, .inl (G.2.1, 256, .inl (fun _ => 0)))]) ++ [(b6, .inl (G.2.1, 256, .inl (fun _ => 0)))]) ++ [(b7, .inl (G.2.2.1, 256, .inl (fun _ => 0)))])) H := hP
  have hD : va_D (va_A ((h0, .inr (8, [.null, .int 0, .null, .null, .null, .null, .null, .null, .null, .int 0, .int 0, .int 0, .null, .long 0])) :: cwL G ad) s.heap.size) ((h0, .inr (8, [.ref b1, .int 0, .ref b2, .ref b3, .ref b4, .ref b5, .ref b6, .ref b7, .null, .int 0, .int 0, .int 0, .null, .long 0])) :: (((((((cwL G ad ++ [(b1, .inl (G.2.1, 2270, .inl (fun _ => 0)))]) ++ [(b2, .inl (G.2.1, 48, .inl (fun _ => 0)))]) ++ [(b3, .inl (G.2.1, 8, .inl (fun _ => 0)))]) ++ [(b4, .inl (G.2.2.1, 8, .inl (fun _ => 0)))]) ++ [(b5, .inl (G.2.1, 256, .inl (fun _ => 0)))]) ++ [(b6, .inl (G.2.1, 256, .inl (fun _ => 0)))]) ++ [(b7, .inl (G.2.2.1, 256, .inl (fun _ => 0)))])) := hD
  refine lv_aload_n hx hb dX8_init_64 rfl (lv_at hl 0 rfl) ?_
  refine lv_bipush (v := (80 : Int32)) hx hb dX8_init_65 (by decide) ?_
  refine nwI hx hb hts hK hP hD hS hA 80 (by decide) (by decide) (Nat.le_of_ble_eq_true rfl) (Nat.le_of_ble_eq_true rfl) (Nat.le_of_ble_eq_true rfl) dX8_init_67 (fun b8 H hP hD hS => ?_)
  have hP : va_P G.1 cls ((h0, .inr (8, [.ref b1, .int 0, .ref b2, .ref b3, .ref b4, .ref b5, .ref b6, .ref b7, .null, .int 0, .int 0, .int 0, .null, .long 0])) :: ((((((((cwL G ad ++ [(b1, .inl (G.2.1, 2270, .inl (fun _ => 0)))]) ++ [(b2, .inl (G.2.1, 48, .inl (fun _ => 0)))]) ++ [(b3, .inl (G.2.1, 8, .inl (fun _ => 0)))]) ++ [(b4, .inl (G.2.2.1, 8, .inl (fun _ => 0)))]) ++ [(b5, .inl (G.2.1, 256, .inl (fun _ => 0)))]) ++ [(b6, .inl (G.2.1, 256, .inl (fun _ => 0)))]) ++ [(b7, .inl (G.2.2.1, 256, .inl (fun _ => 0)))]) ++ [(b8, .inl (G.2.1, 80, .inl (fun _ => 0)))])) H := hP
  have hD : va_D (va_A ((h0, .inr (8, [.null, .int 0, .null, .null, .null, .null, .null, .null, .null, .int 0, .int 0, .int 0, .null, .long 0])) :: cwL G ad) s.heap.size) ((h0, .inr (8, [.ref b1, .int 0, .ref b2, .ref b3, .ref b4, .ref b5, .ref b6, .ref b7, .null, .int 0, .int 0, .int 0, .null, .long 0])) :: ((((((((cwL G ad ++ [(b1, .inl (G.2.1, 2270, .inl (fun _ => 0)))]) ++ [(b2, .inl (G.2.1, 48, .inl (fun _ => 0)))]) ++ [(b3, .inl (G.2.1, 8, .inl (fun _ => 0)))]) ++ [(b4, .inl (G.2.2.1, 8, .inl (fun _ => 0)))]) ++ [(b5, .inl (G.2.1, 256, .inl (fun _ => 0)))]) ++ [(b6, .inl (G.2.1, 256, .inl (fun _ => 0)))]) ++ [(b7, .inl (G.2.2.1, 256, .inl (fun _ => 0)))]) ++ [(b8, .inl (G.2.1, 80, .inl (fun _ => 0)))])) := hD
  refine va_putF (D := G.1) (ci := 8) (v := .ref b8) (ty := .array .int) (C := RX8) (T := TX8) (N := 14) hx hb hts innX8 tyX8 tyX8_ok nmX8 hown hK.1 hP hD hS 0 rfl rfl 8 (by decide) (hts _ wd_3_200) (fun _ h9 => h9) rfl hin rfl (by decide +kernel) rfl rfl (Nat.le_of_ble_eq_true rfl) dX8_init_69 (fun H locs hP hD hS => ?_)
  have hP : va_P G.1 cls ((h0, .inr (8, [.ref b1, .int 0, .ref b2, .ref b3, .ref b4, .ref b5, .ref b6, .ref b7, .ref b8, .int 0, .int 0, .int 0, .null, .long 0])) :: ((((((((cwL G ad ++ [(b1, .inl (G.2.1, 2270, .inl (fun _ => 0)))]) ++ [(b2, .inl (G.2.1, 48, .inl (fun _ => 0)))]) ++ [(b3, .inl (G.2.1, 8, .inl (fun _ => 0)))]) ++ [(b4, .inl (G.2.2.1, 8, .inl (fun _ => 0)))]) ++ [(b5, .inl (G.2.1, 256, .inl (fun _ => 0)))]) ++ [(b6, .inl (G.2.1, 256, .inl (fun _ => 0)))]) ++ [(b7, .inl (G.2.2.1, 256, .inl (fun _ => 0)))]) ++ [(b8, .inl (G.2.1, 80, .inl (fun _ => 0)))])) H := hP
  have hD : va_D (va_A ((h0, .inr (8, [.null, .int 0, .null, .null, .null, .null, .null, .null, .null, .int 0, .int 0, .int 0, .null, .long 0])) :: cwL G ad) s.heap.size) ((h0, .inr (8, [.ref b1, .int 0, .ref b2, .ref b3, .ref b4, .ref b5, .ref b6, .ref b7, .ref b8, .int 0, .int 0, .int 0, .null, .long 0])) :: ((((((((cwL G ad ++ [(b1, .inl (G.2.1, 2270, .inl (fun _ => 0)))]) ++ [(b2, .inl (G.2.1, 48, .inl (fun _ => 0)))]) ++ [(b3, .inl (G.2.1, 8, .inl (fun _ => 0)))]) ++ [(b4, .inl (G.2.2.1, 8, .inl (fun _ => 0)))]) ++ [(b5, .inl (G.2.1, 256, .inl (fun _ => 0)))]) ++ [(b6, .inl (G.2.1, 256, .inl (fun _ => 0)))]) ++ [(b7, .inl (G.2.2.1, 256, .inl (fun _ => 0)))]) ++ [(b8, .inl (G.2.1, 80, .inl (fun _ => 0)))])) := hD
  refine lv_aload_n hx hb dX8_init_72 rfl (lv_at hl 0 rfl) ?_
  refine lv_sipush (v := (216 : Int32)) hx hb dX8_init_73 (by decide) ?_
  refine nwZ hx hb hts hK hP hD hS hA 216 (by decide) (by decide) (Nat.le_of_ble_eq_true rfl) (Nat.le_of_ble_eq_true rfl) (Nat.le_of_ble_eq_true rfl) dX8_init_76 (fun b9 H hP hD hS => ?_)
  have hP : va_P G.1 cls ((h0, .inr (8, [.ref b1, .int 0, .ref b2, .ref b3, .ref b4, .ref b5, .ref b6, .ref b7, .ref b8, .int 0, .int 0, .int 0, .null, .long 0])) :: (((((((((cwL G ad ++ [(b1, .inl (G.2.1, 2270, .inl (fun _ => 0)))]) ++ [(b2, .inl (G.2.1, 48, .inl (fun _ => 0)))]) ++ [(b3, .inl (G.2.1, 8, .inl (fun _ => 0)))]) ++ [(b4, .inl (G.2.2.1, 8, .inl (fun _ => 0)))]) ++ [(b5, .inl (G.2.1, 256, .inl (fun _ => 0)))]) ++ [(b6, .inl (G.2.1, 256, .inl (fun _ => 0)))]) ++ [(b7, .inl (G.2.2.1, 256, .inl (fun _ => 0)))]) ++ [(b8, .inl (G.2.1, 80, .inl (fun _ => 0)))]) ++ [(b9, .inl (G.2.2.1, 216, .inl (fun _ => 0)))])) H := hP
  have hD : va_D (va_A ((h0, .inr (8, [.null, .int 0, .null, .null, .null, .null, .null, .null, .null, .int 0, .int 0, .int 0, .null, .long 0])) :: cwL G ad) s.heap.size) ((h0, .inr (8, [.ref b1, .int 0, .ref b2, .ref b3, .ref b4, .ref b5, .ref b6, .ref b7, .ref b8, .int 0, .int 0, .int 0, .null, .long 0])) :: (((((((((cwL G ad ++ [(b1, .inl (G.2.1, 2270, .inl (fun _ => 0)))]) ++ [(b2, .inl (G.2.1, 48, .inl (fun _ => 0)))]) ++ [(b3, .inl (G.2.1, 8, .inl (fun _ => 0)))]) ++ [(b4, .inl (G.2.2.1, 8, .inl (fun _ => 0)))]) ++ [(b5, .inl (G.2.1, 256, .inl (fun _ => 0)))]) ++ [(b6, .inl (G.2.1, 256, .inl (fun _ => 0)))]) ++ [(b7, .inl (G.2.2.1, 256, .inl (fun _ => 0)))]) ++ [(b8, .inl (G.2.1, 80, .inl (fun _ => 0)))]) ++ [(b9, .inl (G.2.2.1, 216, .inl (fun _ => 0)))])) := hD
  refine va_putF (D := G.1) (ci := 8) (v := .ref b9) (ty := .array .boolean) (C := RX8) (T := TX8) (N := 14) hx hb hts innX8 tyX8 tyX8_ok nmX8 hown hK.1 hP hD hS 0 rfl rfl 12 (by decide) (hts _ wd_3_204) (fun _ h9 => h9) rfl hin rfl (by decide +kernel) rfl rfl (Nat.le_of_ble_eq_true rfl) dX8_init_78 (fun H locs hP hD hS => ?_)
  have hP : va_P G.1 cls ((h0, .inr (8, [.ref b1, .int 0, .ref b2, .ref b3, .ref b4, .ref b5, .ref b6, .ref b7, .ref b8, .int 0, .int 0, .int 0, .ref b9, .long 0])) :: (((((((((cwL G ad ++ [(b1, .inl (G.2.1, 2270, .inl (fun _ => 0)))]) ++ [(b2, .inl (G.2.1, 48, .inl (fun _ => 0)))]) ++ [(b3, .inl (G.2.1, 8, .inl (fun _ => 0)))]) ++ [(b4, .inl (G.2.2.1, 8, .inl (fun _ => 0)))]) ++ [(b5, .inl (G.2.1, 256, .inl (fun _ => 0)))]) ++ [(b6, .inl (G.2.1, 256, .inl (fun _ => 0)))]) ++ [(b7, .inl (G.2.2.1, 256, .inl (fun _ => 0)))]) ++ [(b8, .inl (G.2.1, 80, .inl (fun _ => 0)))]) ++ [(b9, .inl (G.2.2.1, 216, .inl (fun _ => 0)))])) H := hP
  have hD : va_D (va_A ((h0, .inr (8, [.null, .int 0, .null, .null, .null, .null, .null, .null, .null, .int 0, .int 0, .int 0, .null, .long 0])) :: cwL G ad) s.heap.size) ((h0, .inr (8, [.ref b1, .int 0, .ref b2, .ref b3, .ref b4, .ref b5, .ref b6, .ref b7, .ref b8, .int 0, .int 0, .int 0, .ref b9, .long 0])) :: (((((((((cwL G ad ++ [(b1, .inl (G.2.1, 2270, .inl (fun _ => 0)))]) ++ [(b2, .inl (G.2.1, 48, .inl (fun _ => 0)))]) ++ [(b3, .inl (G.2.1, 8, .inl (fun _ => 0)))]) ++ [(b4, .inl (G.2.2.1, 8, .inl (fun _ => 0)))]) ++ [(b5, .inl (G.2.1, 256, .inl (fun _ => 0)))]) ++ [(b6, .inl (G.2.1, 256, .inl (fun _ => 0)))]) ++ [(b7, .inl (G.2.2.1, 256, .inl (fun _ => 0)))]) ++ [(b8, .inl (G.2.1, 80, .inl (fun _ => 0)))]) ++ [(b9, .inl (G.2.2.1, 216, .inl (fun _ => 0)))])) := hD
  refine lv_aload_n hx hb dX8_init_81 rfl (lv_at hl 0 rfl) ?_
  obtain ⟨ad2, had⟩ : ∃ z : Nat → Nat, z = ad71 ad [h0, b1, b2, b3, b4, b5, b6, b7, b8, b9] := ⟨_, rfl⟩
  have hlo : ∀ k, k < 61 → ad2 k = ad k := fun k hk => by rw [had]; exact ad71_lo hk
  have a61 : ad2 61 = h0 := by rw [had]; rfl
  have a62 : ad2 62 = b1 := by rw [had]; rfl
  have a63 : ad2 63 = b2 := by rw [had]; rfl
  have a64 : ad2 64 = b3 := by rw [had]; rfl
  have a65 : ad2 65 = b4 := by rw [had]; rfl
  have a66 : ad2 66 = b5 := by rw [had]; rfl
  have a67 : ad2 67 = b6 := by rw [had]; rfl
  have a68 : ad2 68 = b7 := by rw [had]; rfl
  have a69 : ad2 69 = b8 := by rw [had]; rfl
  have a70 : ad2 70 = b9 := by rw [had]; rfl
  clear had
  have hlen : (cwL G ad).length = 61 := cwL_len G ad
  have hcw : ∀ k, k < 61 → ((h0, .inr (8, [.ref b1, .int 0, .ref b2, .ref b3, .ref b4, .ref b5, .ref b6, .ref b7, .ref b8, .int 0, .int 0, .int 0, .ref b9, .long 0])) :: (((((((((cwL G ad ++ [(b1, .inl (G.2.1, 2270, .inl (fun _ => 0)))]) ++ [(b2, .inl (G.2.1, 48, .inl (fun _ => 0)))]) ++ [(b3, .inl (G.2.1, 8, .inl (fun _ => 0)))]) ++ [(b4, .inl (G.2.2.1, 8, .inl (fun _ => 0)))]) ++ [(b5, .inl (G.2.1, 256, .inl (fun _ => 0)))]) ++ [(b6, .inl (G.2.1, 256, .inl (fun _ => 0)))]) ++ [(b7, .inl (G.2.2.1, 256, .inl (fun _ => 0)))]) ++ [(b8, .inl (G.2.1, 80, .inl (fun _ => 0)))]) ++ [(b9, .inl (G.2.2.1, 216, .inl (fun _ => 0)))]))[k + 1]? = some (ad k, rd (mkX G ad (fun _ => True)) k (M0 k)) := by
    intro k hk
    have h := cwL_at G ad hk
    rw [List.getElem?_cons_succ]
    exact app_l (app_l (app_l (app_l (app_l (app_l (app_l (app_l (app_l (h)))))))))
  have hn1 : ((h0, .inr (8, [.ref b1, .int 0, .ref b2, .ref b3, .ref b4, .ref b5, .ref b6, .ref b7, .ref b8, .int 0, .int 0, .int 0, .ref b9, .long 0])) :: (((((((((cwL G ad ++ [(b1, .inl (G.2.1, 2270, .inl (fun _ => 0)))]) ++ [(b2, .inl (G.2.1, 48, .inl (fun _ => 0)))]) ++ [(b3, .inl (G.2.1, 8, .inl (fun _ => 0)))]) ++ [(b4, .inl (G.2.2.1, 8, .inl (fun _ => 0)))]) ++ [(b5, .inl (G.2.1, 256, .inl (fun _ => 0)))]) ++ [(b6, .inl (G.2.1, 256, .inl (fun _ => 0)))]) ++ [(b7, .inl (G.2.2.1, 256, .inl (fun _ => 0)))]) ++ [(b8, .inl (G.2.1, 80, .inl (fun _ => 0)))]) ++ [(b9, .inl (G.2.2.1, 216, .inl (fun _ => 0)))]))[62]? = some (b1, .inl (G.2.1, 2270, .inl (fun _ => 0))) := by
    rw [List.getElem?_cons_succ]
    have h0 : (cwL G ad ++ [(b1, .inl (G.2.1, 2270, .inl (fun _ => 0)))] : va_W)[61 + 0]? = some (b1, .inl (G.2.1, 2270, .inl (fun _ => 0))) := by
      have hl2 : (cwL G ad : va_W).length = 61 + 0 := by simp [hlen]
      have h := app_r (X := (cwL G ad : va_W)) (Y := [(b1, .inl (G.2.1, 2270, .inl (fun _ => 0)))]) (k := 0) rfl
      rw [hl2] at h; exact h
    exact app_l (app_l (app_l (app_l (app_l (app_l (app_l (app_l (h0))))))))
  have hn2 : ((h0, .inr (8, [.ref b1, .int 0, .ref b2, .ref b3, .ref b4, .ref b5, .ref b6, .ref b7, .ref b8, .int 0, .int 0, .int 0, .ref b9, .long 0])) :: (((((((((cwL G ad ++ [(b1, .inl (G.2.1, 2270, .inl (fun _ => 0)))]) ++ [(b2, .inl (G.2.1, 48, .inl (fun _ => 0)))]) ++ [(b3, .inl (G.2.1, 8, .inl (fun _ => 0)))]) ++ [(b4, .inl (G.2.2.1, 8, .inl (fun _ => 0)))]) ++ [(b5, .inl (G.2.1, 256, .inl (fun _ => 0)))]) ++ [(b6, .inl (G.2.1, 256, .inl (fun _ => 0)))]) ++ [(b7, .inl (G.2.2.1, 256, .inl (fun _ => 0)))]) ++ [(b8, .inl (G.2.1, 80, .inl (fun _ => 0)))]) ++ [(b9, .inl (G.2.2.1, 216, .inl (fun _ => 0)))]))[63]? = some (b2, .inl (G.2.1, 48, .inl (fun _ => 0))) := by
    rw [List.getElem?_cons_succ]
    have h0 : ((cwL G ad ++ [(b1, .inl (G.2.1, 2270, .inl (fun _ => 0)))]) ++ [(b2, .inl (G.2.1, 48, .inl (fun _ => 0)))] : va_W)[61 + 1]? = some (b2, .inl (G.2.1, 48, .inl (fun _ => 0))) := by
      have hl2 : ((cwL G ad ++ [(b1, .inl (G.2.1, 2270, .inl (fun _ => 0)))]) : va_W).length = 61 + 1 := by simp [hlen]
      have h := app_r (X := ((cwL G ad ++ [(b1, .inl (G.2.1, 2270, .inl (fun _ => 0)))]) : va_W)) (Y := [(b2, .inl (G.2.1, 48, .inl (fun _ => 0)))]) (k := 0) rfl
      rw [hl2] at h; exact h
    exact app_l (app_l (app_l (app_l (app_l (app_l (app_l (h0)))))))
  have hn3 : ((h0, .inr (8, [.ref b1, .int 0, .ref b2, .ref b3, .ref b4, .ref b5, .ref b6, .ref b7, .ref b8, .int 0, .int 0, .int 0, .ref b9, .long 0])) :: (((((((((cwL G ad ++ [(b1, .inl (G.2.1, 2270, .inl (fun _ => 0)))]) ++ [(b2, .inl (G.2.1, 48, .inl (fun _ => 0)))]) ++ [(b3, .inl (G.2.1, 8, .inl (fun _ => 0)))]) ++ [(b4, .inl (G.2.2.1, 8, .inl (fun _ => 0)))]) ++ [(b5, .inl (G.2.1, 256, .inl (fun _ => 0)))]) ++ [(b6, .inl (G.2.1, 256, .inl (fun _ => 0)))]) ++ [(b7, .inl (G.2.2.1, 256, .inl (fun _ => 0)))]) ++ [(b8, .inl (G.2.1, 80, .inl (fun _ => 0)))]) ++ [(b9, .inl (G.2.2.1, 216, .inl (fun _ => 0)))]))[64]? = some (b3, .inl (G.2.1, 8, .inl (fun _ => 0))) := by
    rw [List.getElem?_cons_succ]
    have h0 : (((cwL G ad ++ [(b1, .inl (G.2.1, 2270, .inl (fun _ => 0)))]) ++ [(b2, .inl (G.2.1, 48, .inl (fun _ => 0)))]) ++ [(b3, .inl (G.2.1, 8, .inl (fun _ => 0)))] : va_W)[61 + 2]? = some (b3, .inl (G.2.1, 8, .inl (fun _ => 0))) := by
      have hl2 : (((cwL G ad ++ [(b1, .inl (G.2.1, 2270, .inl (fun _ => 0)))]) ++ [(b2, .inl (G.2.1, 48, .inl (fun _ => 0)))]) : va_W).length = 61 + 2 := by simp [hlen]
      have h := app_r (X := (((cwL G ad ++ [(b1, .inl (G.2.1, 2270, .inl (fun _ => 0)))]) ++ [(b2, .inl (G.2.1, 48, .inl (fun _ => 0)))]) : va_W)) (Y := [(b3, .inl (G.2.1, 8, .inl (fun _ => 0)))]) (k := 0) rfl
      rw [hl2] at h; exact h
    exact app_l (app_l (app_l (app_l (app_l (app_l (h0))))))
  have hn4 : ((h0, .inr (8, [.ref b1, .int 0, .ref b2, .ref b3, .ref b4, .ref b5, .ref b6, .ref b7, .ref b8, .int 0, .int 0, .int 0, .ref b9, .long 0])) :: (((((((((cwL G ad ++ [(b1, .inl (G.2.1, 2270, .inl (fun _ => 0)))]) ++ [(b2, .inl (G.2.1, 48, .inl (fun _ => 0)))]) ++ [(b3, .inl (G.2.1, 8, .inl (fun _ => 0)))]) ++ [(b4, .inl (G.2.2.1, 8, .inl (fun _ => 0)))]) ++ [(b5, .inl (G.2.1, 256, .inl (fun _ => 0)))]) ++ [(b6, .inl (G.2.1, 256, .inl (fun _ => 0)))]) ++ [(b7, .inl (G.2.2.1, 256, .inl (fun _ => 0)))]) ++ [(b8, .inl (G.2.1, 80, .inl (fun _ => 0)))]) ++ [(b9, .inl (G.2.2.1, 216, .inl (fun _ => 0)))]))[65]? = some (b4, .inl (G.2.2.1, 8, .inl (fun _ => 0))) := by
    rw [List.getElem?_cons_succ]
    have h0 : ((((cwL G ad ++ [(b1, .inl (G.2.1, 2270, .inl (fun _ => 0)))]) ++ [(b2, .inl (G.2.1, 48, .inl (fun _ => 0)))]) ++ [(b3, .inl (G.2.1, 8, .inl (fun _ => 0)))]) ++ [(b4, .inl (G.2.2.1, 8, .inl (fun _ => 0)))] : va_W)[61 + 3]? = some (b4, .inl (G.2.2.1, 8, .inl (fun _ => 0))) := by
      have hl2 : ((((cwL G ad ++ [(b1, .inl (G.2.1, 2270, .inl (fun _ => 0)))]) ++ [(b2, .inl (G.2.1, 48, .inl (fun _ => 0)))]) ++ [(b3, .inl (G.2.1, 8, .inl (fun _ => 0)))]) : va_W).length = 61 + 3 := by simp [hlen]
      have h := app_r (X := ((((cwL G ad ++ [(b1, .inl (G.2.1, 2270, .inl (fun _ => 0)))]) ++ [(b2, .inl (G.2.1, 48, .inl (fun _ => 0)))]) ++ [(b3, .inl (G.2.1, 8, .inl (fun _ => 0)))]) : va_W)) (Y := [(b4, .inl (G.2.2.1, 8, .inl (fun _ => 0)))]) (k := 0) rfl
      rw [hl2] at h; exact h
    exact app_l (app_l (app_l (app_l (app_l (h0)))))
  have hn5 : ((h0, .inr (8, [.ref b1, .int 0, .ref b2, .ref b3, .ref b4, .ref b5, .ref b6, .ref b7, .ref b8, .int 0, .int 0, .int 0, .ref b9, .long 0])) :: (((((((((cwL G ad ++ [(b1, .inl (G.2.1, 2270, .inl (fun _ => 0)))]) ++ [(b2, .inl (G.2.1, 48, .inl (fun _ => 0)))]) ++ [(b3, .inl (G.2.1, 8, .inl (fun _ => 0)))]) ++ [(b4, .inl (G.2.2.1, 8, .inl (fun _ => 0)))]) ++ [(b5, .inl (G.2.1, 256, .inl (fun _ => 0)))]) ++ [(b6, .inl (G.2.1, 256, .inl (fun _ => 0)))]) ++ [(b7, .inl (G.2.2.1, 256, .inl (fun _ => 0)))]) ++ [(b8, .inl (G.2.1, 80, .inl (fun _ => 0)))]) ++ [(b9, .inl (G.2.2.1, 216, .inl (fun _ => 0)))]))[66]? = some (b5, .inl (G.2.1, 256, .inl (fun _ => 0))) := by
    rw [List.getElem?_cons_succ]
    have h0 : (((((cwL G ad ++ [(b1, .inl (G.2.1, 2270, .inl (fun _ => 0)))]) ++ [(b2, .inl (G.2.1, 48, .inl (fun _ => 0)))]) ++ [(b3, .inl (G.2.1, 8, .inl (fun _ => 0)))]) ++ [(b4, .inl (G.2.2.1, 8, .inl (fun _ => 0)))]) ++ [(b5, .inl (G.2.1, 256, .inl (fun _ => 0)))] : va_W)[61 + 4]? = some (b5, .inl (G.2.1, 256, .inl (fun _ => 0))) := by
      have hl2 : (((((cwL G ad ++ [(b1, .inl (G.2.1, 2270, .inl (fun _ => 0)))]) ++ [(b2, .inl (G.2.1, 48, .inl (fun _ => 0)))]) ++ [(b3, .inl (G.2.1, 8, .inl (fun _ => 0)))]) ++ [(b4, .inl (G.2.2.1, 8, .inl (fun _ => 0)))]) : va_W).length = 61 + 4 := by simp [hlen]
      have h := app_r (X := (((((cwL G ad ++ [(b1, .inl (G.2.1, 2270, .inl (fun _ => 0)))]) ++ [(b2, .inl (G.2.1, 48, .inl (fun _ => 0)))]) ++ [(b3, .inl (G.2.1, 8, .inl (fun _ => 0)))]) ++ [(b4, .inl (G.2.2.1, 8, .inl (fun _ => 0)))]) : va_W)) (Y := [(b5, .inl (G.2.1, 256, .inl (fun _ => 0)))]) (k := 0) rfl
      rw [hl2] at h; exact h
    exact app_l (app_l (app_l (app_l (h0))))
  have hn6 : ((h0, .inr (8, [.ref b1, .int 0, .ref b2, .ref b3, .ref b4, .ref b5, .ref b6, .ref b7, .ref b8, .int 0, .int 0, .int 0, .ref b9, .long 0])) :: (((((((((cwL G ad ++ [(b1, .inl (G.2.1, 2270, .inl (fun _ => 0)))]) ++ [(b2, .inl (G.2.1, 48, .inl (fun _ => 0)))]) ++ [(b3, .inl (G.2.1, 8, .inl (fun _ => 0)))]) ++ [(b4, .inl (G.2.2.1, 8, .inl (fun _ => 0)))]) ++ [(b5, .inl (G.2.1, 256, .inl (fun _ => 0)))]) ++ [(b6, .inl (G.2.1, 256, .inl (fun _ => 0)))]) ++ [(b7, .inl (G.2.2.1, 256, .inl (fun _ => 0)))]) ++ [(b8, .inl (G.2.1, 80, .inl (fun _ => 0)))]) ++ [(b9, .inl (G.2.2.1, 216, .inl (fun _ => 0)))]))[67]? = some (b6, .inl (G.2.1, 256, .inl (fun _ => 0))) := by
    rw [List.getElem?_cons_succ]
    have h0 : ((((((cwL G ad ++ [(b1, .inl (G.2.1, 2270, .inl (fun _ => 0)))]) ++ [(b2, .inl (G.2.1, 48, .inl (fun _ => 0)))]) ++ [(b3, .inl (G.2.1, 8, .inl (fun _ => 0)))]) ++ [(b4, .inl (G.2.2.1, 8, .inl (fun _ => 0)))]) ++ [(b5, .inl (G.2.1, 256, .inl (fun _ => 0)))]) ++ [(b6, .inl (G.2.1, 256, .inl (fun _ => 0)))] : va_W)[61 + 5]? = some (b6, .inl (G.2.1, 256, .inl (fun _ => 0))) := by
      have hl2 : ((((((cwL G ad ++ [(b1, .inl (G.2.1, 2270, .inl (fun _ => 0)))]) ++ [(b2, .inl (G.2.1, 48, .inl (fun _ => 0)))]) ++ [(b3, .inl (G.2.1, 8, .inl (fun _ => 0)))]) ++ [(b4, .inl (G.2.2.1, 8, .inl (fun _ => 0)))]) ++ [(b5, .inl (G.2.1, 256, .inl (fun _ => 0)))]) : va_W).length = 61 + 5 := by simp [hlen]
      have h := app_r (X := ((((((cwL G ad ++ [(b1, .inl (G.2.1, 2270, .inl (fun _ => 0)))]) ++ [(b2, .inl (G.2.1, 48, .inl (fun _ => 0)))]) ++ [(b3, .inl (G.2.1, 8, .inl (fun _ => 0)))]) ++ [(b4, .inl (G.2.2.1, 8, .inl (fun _ => 0)))]) ++ [(b5, .inl (G.2.1, 256, .inl (fun _ => 0)))]) : va_W)) (Y := [(b6, .inl (G.2.1, 256, .inl (fun _ => 0)))]) (k := 0) rfl
      rw [hl2] at h; exact h
    exact app_l (app_l (app_l (h0)))
  have hn7 : ((h0, .inr (8, [.ref b1, .int 0, .ref b2, .ref b3, .ref b4, .ref b5, .ref b6, .ref b7, .ref b8, .int 0, .int 0, .int 0, .ref b9, .long 0])) :: (((((((((cwL G ad ++ [(b1, .inl (G.2.1, 2270, .inl (fun _ => 0)))]) ++ [(b2, .inl (G.2.1, 48, .inl (fun _ => 0)))]) ++ [(b3, .inl (G.2.1, 8, .inl (fun _ => 0)))]) ++ [(b4, .inl (G.2.2.1, 8, .inl (fun _ => 0)))]) ++ [(b5, .inl (G.2.1, 256, .inl (fun _ => 0)))]) ++ [(b6, .inl (G.2.1, 256, .inl (fun _ => 0)))]) ++ [(b7, .inl (G.2.2.1, 256, .inl (fun _ => 0)))]) ++ [(b8, .inl (G.2.1, 80, .inl (fun _ => 0)))]) ++ [(b9, .inl (G.2.2.1, 216, .inl (fun _ => 0)))]))[68]? = some (b7, .inl (G.2.2.1, 256, .inl (fun _ => 0))) := by
    rw [List.getElem?_cons_succ]
    have h0 : (((((((cwL G ad ++ [(b1, .inl (G.2.1, 2270, .inl (fun _ => 0)))]) ++ [(b2, .inl (G.2.1, 48, .inl (fun _ => 0)))]) ++ [(b3, .inl (G.2.1, 8, .inl (fun _ => 0)))]) ++ [(b4, .inl (G.2.2.1, 8, .inl (fun _ => 0)))]) ++ [(b5, .inl (G.2.1, 256, .inl (fun _ => 0)))]) ++ [(b6, .inl (G.2.1, 256, .inl (fun _ => 0)))]) ++ [(b7, .inl (G.2.2.1, 256, .inl (fun _ => 0)))] : va_W)[61 + 6]? = some (b7, .inl (G.2.2.1, 256, .inl (fun _ => 0))) := by
      have hl2 : (((((((cwL G ad ++ [(b1, .inl (G.2.1, 2270, .inl (fun _ => 0)))]) ++ [(b2, .inl (G.2.1, 48, .inl (fun _ => 0)))]) ++ [(b3, .inl (G.2.1, 8, .inl (fun _ => 0)))]) ++ [(b4, .inl (G.2.2.1, 8, .inl (fun _ => 0)))]) ++ [(b5, .inl (G.2.1, 256, .inl (fun _ => 0)))]) ++ [(b6, .inl (G.2.1, 256, .inl (fun _ => 0)))]) : va_W).length = 61 + 6 := by simp [hlen]
      have h := app_r (X := (((((((cwL G ad ++ [(b1, .inl (G.2.1, 2270, .inl (fun _ => 0)))]) ++ [(b2, .inl (G.2.1, 48, .inl (fun _ => 0)))]) ++ [(b3, .inl (G.2.1, 8, .inl (fun _ => 0)))]) ++ [(b4, .inl (G.2.2.1, 8, .inl (fun _ => 0)))]) ++ [(b5, .inl (G.2.1, 256, .inl (fun _ => 0)))]) ++ [(b6, .inl (G.2.1, 256, .inl (fun _ => 0)))]) : va_W)) (Y := [(b7, .inl (G.2.2.1, 256, .inl (fun _ => 0)))]) (k := 0) rfl
      rw [hl2] at h; exact h
    exact app_l (app_l (h0))
  have hn8 : ((h0, .inr (8, [.ref b1, .int 0, .ref b2, .ref b3, .ref b4, .ref b5, .ref b6, .ref b7, .ref b8, .int 0, .int 0, .int 0, .ref b9, .long 0])) :: (((((((((cwL G ad ++ [(b1, .inl (G.2.1, 2270, .inl (fun _ => 0)))]) ++ [(b2, .inl (G.2.1, 48, .inl (fun _ => 0)))]) ++ [(b3, .inl (G.2.1, 8, .inl (fun _ => 0)))]) ++ [(b4, .inl (G.2.2.1, 8, .inl (fun _ => 0)))]) ++ [(b5, .inl (G.2.1, 256, .inl (fun _ => 0)))]) ++ [(b6, .inl (G.2.1, 256, .inl (fun _ => 0)))]) ++ [(b7, .inl (G.2.2.1, 256, .inl (fun _ => 0)))]) ++ [(b8, .inl (G.2.1, 80, .inl (fun _ => 0)))]) ++ [(b9, .inl (G.2.2.1, 216, .inl (fun _ => 0)))]))[69]? = some (b8, .inl (G.2.1, 80, .inl (fun _ => 0))) := by
    rw [List.getElem?_cons_succ]
    have h0 : ((((((((cwL G ad ++ [(b1, .inl (G.2.1, 2270, .inl (fun _ => 0)))]) ++ [(b2, .inl (G.2.1, 48, .inl (fun _ => 0)))]) ++ [(b3, .inl (G.2.1, 8, .inl (fun _ => 0)))]) ++ [(b4, .inl (G.2.2.1, 8, .inl (fun _ => 0)))]) ++ [(b5, .inl (G.2.1, 256, .inl (fun _ => 0)))]) ++ [(b6, .inl (G.2.1, 256, .inl (fun _ => 0)))]) ++ [(b7, .inl (G.2.2.1, 256, .inl (fun _ => 0)))]) ++ [(b8, .inl (G.2.1, 80, .inl (fun _ => 0)))] : va_W)[61 + 7]? = some (b8, .inl (G.2.1, 80, .inl (fun _ => 0))) := by
      have hl2 : ((((((((cwL G ad ++ [(b1, .inl (G.2.1, 2270, .inl (fun _ => 0)))]) ++ [(b2, .inl (G.2.1, 48, .inl (fun _ => 0)))]) ++ [(b3, .inl (G.2.1, 8, .inl (fun _ => 0)))]) ++ [(b4, .inl (G.2.2.1, 8, .inl (fun _ => 0)))]) ++ [(b5, .inl (G.2.1, 256, .inl (fun _ => 0)))]) ++ [(b6, .inl (G.2.1, 256, .inl (fun _ => 0)))]) ++ [(b7, .inl (G.2.2.1, 256, .inl (fun _ => 0)))]) : va_W).length = 61 + 7 := by simp [hlen]
      have h := app_r (X := ((((((((cwL G ad ++ [(b1, .inl (G.2.1, 2270, .inl (fun _ => 0)))]) ++ [(b2, .inl (G.2.1, 48, .inl (fun _ => 0)))]) ++ [(b3, .inl (G.2.1, 8, .inl (fun _ => 0)))]) ++ [(b4, .inl (G.2.2.1, 8, .inl (fun _ => 0)))]) ++ [(b5, .inl (G.2.1, 256, .inl (fun _ => 0)))]) ++ [(b6, .inl (G.2.1, 256, .inl (fun _ => 0)))]) ++ [(b7, .inl (G.2.2.1, 256, .inl (fun _ => 0)))]) : va_W)) (Y := [(b8, .inl (G.2.1, 80, .inl (fun _ => 0)))]) (k := 0) rfl
      rw [hl2] at h; exact h
    exact app_l (h0)
  have hn9 : ((h0, .inr (8, [.ref b1, .int 0, .ref b2, .ref b3, .ref b4, .ref b5, .ref b6, .ref b7, .ref b8, .int 0, .int 0, .int 0, .ref b9, .long 0])) :: (((((((((cwL G ad ++ [(b1, .inl (G.2.1, 2270, .inl (fun _ => 0)))]) ++ [(b2, .inl (G.2.1, 48, .inl (fun _ => 0)))]) ++ [(b3, .inl (G.2.1, 8, .inl (fun _ => 0)))]) ++ [(b4, .inl (G.2.2.1, 8, .inl (fun _ => 0)))]) ++ [(b5, .inl (G.2.1, 256, .inl (fun _ => 0)))]) ++ [(b6, .inl (G.2.1, 256, .inl (fun _ => 0)))]) ++ [(b7, .inl (G.2.2.1, 256, .inl (fun _ => 0)))]) ++ [(b8, .inl (G.2.1, 80, .inl (fun _ => 0)))]) ++ [(b9, .inl (G.2.2.1, 216, .inl (fun _ => 0)))]))[70]? = some (b9, .inl (G.2.2.1, 216, .inl (fun _ => 0))) := by
    rw [List.getElem?_cons_succ]
    have h0 : (((((((((cwL G ad ++ [(b1, .inl (G.2.1, 2270, .inl (fun _ => 0)))]) ++ [(b2, .inl (G.2.1, 48, .inl (fun _ => 0)))]) ++ [(b3, .inl (G.2.1, 8, .inl (fun _ => 0)))]) ++ [(b4, .inl (G.2.2.1, 8, .inl (fun _ => 0)))]) ++ [(b5, .inl (G.2.1, 256, .inl (fun _ => 0)))]) ++ [(b6, .inl (G.2.1, 256, .inl (fun _ => 0)))]) ++ [(b7, .inl (G.2.2.1, 256, .inl (fun _ => 0)))]) ++ [(b8, .inl (G.2.1, 80, .inl (fun _ => 0)))]) ++ [(b9, .inl (G.2.2.1, 216, .inl (fun _ => 0)))] : va_W)[61 + 8]? = some (b9, .inl (G.2.2.1, 216, .inl (fun _ => 0))) := by
      have hl2 : (((((((((cwL G ad ++ [(b1, .inl (G.2.1, 2270, .inl (fun _ => 0)))]) ++ [(b2, .inl (G.2.1, 48, .inl (fun _ => 0)))]) ++ [(b3, .inl (G.2.1, 8, .inl (fun _ => 0)))]) ++ [(b4, .inl (G.2.2.1, 8, .inl (fun _ => 0)))]) ++ [(b5, .inl (G.2.1, 256, .inl (fun _ => 0)))]) ++ [(b6, .inl (G.2.1, 256, .inl (fun _ => 0)))]) ++ [(b7, .inl (G.2.2.1, 256, .inl (fun _ => 0)))]) ++ [(b8, .inl (G.2.1, 80, .inl (fun _ => 0)))]) : va_W).length = 61 + 8 := by simp [hlen]
      have h := app_r (X := (((((((((cwL G ad ++ [(b1, .inl (G.2.1, 2270, .inl (fun _ => 0)))]) ++ [(b2, .inl (G.2.1, 48, .inl (fun _ => 0)))]) ++ [(b3, .inl (G.2.1, 8, .inl (fun _ => 0)))]) ++ [(b4, .inl (G.2.2.1, 8, .inl (fun _ => 0)))]) ++ [(b5, .inl (G.2.1, 256, .inl (fun _ => 0)))]) ++ [(b6, .inl (G.2.1, 256, .inl (fun _ => 0)))]) ++ [(b7, .inl (G.2.2.1, 256, .inl (fun _ => 0)))]) ++ [(b8, .inl (G.2.1, 80, .inl (fun _ => 0)))]) : va_W)) (Y := [(b9, .inl (G.2.2.1, 216, .inl (fun _ => 0)))]) (k := 0) rfl
      rw [hl2] at h; exact h
    exact h0
  have hpl : ∀ k, k < 71 → ∃ (pl : Nat) (e0 : va_E), ((h0, .inr (8, [.ref b1, .int 0, .ref b2, .ref b3, .ref b4, .ref b5, .ref b6, .ref b7, .ref b8, .int 0, .int 0, .int 0, .ref b9, .long 0])) :: (((((((((cwL G ad ++ [(b1, .inl (G.2.1, 2270, .inl (fun _ => 0)))]) ++ [(b2, .inl (G.2.1, 48, .inl (fun _ => 0)))]) ++ [(b3, .inl (G.2.1, 8, .inl (fun _ => 0)))]) ++ [(b4, .inl (G.2.2.1, 8, .inl (fun _ => 0)))]) ++ [(b5, .inl (G.2.1, 256, .inl (fun _ => 0)))]) ++ [(b6, .inl (G.2.1, 256, .inl (fun _ => 0)))]) ++ [(b7, .inl (G.2.2.1, 256, .inl (fun _ => 0)))]) ++ [(b8, .inl (G.2.1, 80, .inl (fun _ => 0)))]) ++ [(b9, .inl (G.2.2.1, 216, .inl (fun _ => 0)))]))[pl]? = some (ad2 k, e0) ∧ pl = (if k < 61 then k + 1 else if k = 61 then 0 else k) := by
    intro k hk
    by_cases h : k < 61
    · exact ⟨k + 1, _, by rw [hlo k h]; exact hcw k h, by rw [if_pos h]⟩
    · rcases (show k = 61 ∨ k = 62 ∨ k = 63 ∨ k = 64 ∨ k = 65 ∨ k = 66 ∨ k = 67 ∨ k = 68 ∨ k = 69 ∨ k = 70 by omega) with rfl | rfl | rfl | rfl | rfl | rfl | rfl | rfl | rfl | rfl
      · exact ⟨0, _, by rw [a61]; rfl, rfl⟩
      · exact ⟨62, _, by rw [a62]; exact hn1, rfl⟩
      · exact ⟨63, _, by rw [a63]; exact hn2, rfl⟩
      · exact ⟨64, _, by rw [a64]; exact hn3, rfl⟩
      · exact ⟨65, _, by rw [a65]; exact hn4, rfl⟩
      · exact ⟨66, _, by rw [a66]; exact hn5, rfl⟩
      · exact ⟨67, _, by rw [a67]; exact hn6, rfl⟩
      · exact ⟨68, _, by rw [a68]; exact hn7, rfl⟩
      · exact ⟨69, _, by rw [a69]; exact hn8, rfl⟩
      · exact ⟨70, _, by rw [a70]; exact hn9, rfl⟩
  have hDD : ∀ M : Mem, va_D (va_A ((h0, .inr (8, [.null, .int 0, .null, .null, .null, .null, .null, .null, .null, .int 0, .int 0, .int 0, .null, .long 0])) :: cwL G ad) s.heap.size) (wsL (mkX G ad2 (va_A ((h0, .inr (8, [.null, .int 0, .null, .null, .null, .null, .null, .null, .null, .int 0, .int 0, .int 0, .null, .long 0])) :: cwL G ad) s.heap.size)) M) := by
    intro M
    have ea : ∀ (k : Nat) (q : Nat × va_E), (wsL (mkX G ad2 (va_A ((h0, .inr (8, [.null, .int 0, .null, .null, .null, .null, .null, .null, .null, .int 0, .int 0, .int 0, .null, .long 0])) :: cwL G ad) s.heap.size)) M)[k]? = some q → k < 71 ∧ q.1 = ad2 k := by
      intro k q hq
      have hk : k < 71 := by have := (List.getElem?_eq_some_iff.mp hq).1; simpa [wsL] using this
      have h := wsL_at (mkX G ad2 (va_A ((h0, .inr (8, [.null, .int 0, .null, .null, .null, .null, .null, .null, .null, .int 0, .int 0, .int 0, .null, .long 0])) :: cwL G ad) s.heap.size)) M hk rfl
      exact ⟨hk, by have e1 := Option.some.inj (hq.symm.trans h); rw [e1]⟩
    refine ⟨fun i j x z hx hz hxz => ?_, fun k q hq => ?_⟩
    · obtain ⟨hi, ex⟩ := ea i x hx; obtain ⟨hj, ez⟩ := ea j z hz
      obtain ⟨p1, e1, h1, q1⟩ := hpl i hi; obtain ⟨p2, e2, h2, q2⟩ := hpl j hj
      have hpp := hD.1 p1 p2 _ _ h1 h2 (by show ad2 i = ad2 j; rw [← ex, ← ez, hxz])
      rw [q1, q2] at hpp
      exact pl_inj hi hj hpp
    · obtain ⟨hk, ex⟩ := ea k q hq; obtain ⟨p1, e1, h1, q1⟩ := hpl k hk; rw [ex]; exact hD.2 p1 _ h1
  have hPP : wd (mkX G ad2 (va_A ((h0, .inr (8, [.null, .int 0, .null, .null, .null, .null, .null, .null, .null, .int 0, .int 0, .int 0, .null, .long 0])) :: cwL G ad) s.heap.size)) M0 H := by
    have at0 : ∀ k, k < 71 → va_at G.1 cls (ad2 k, rd (mkX G ad2 (va_A ((h0, .inr (8, [.null, .int 0, .null, .null, .null, .null, .null, .null, .null, .int 0, .int 0, .int 0, .null, .long 0])) :: cwL G ad) s.heap.size)) k (M0 k)) H := by
      intro k hk
      by_cases h : k < 61
      · have h1 := hP _ _ (hcw k h)
        rw [hlo k h]
        by_cases h22 : k = 22
        · subst h22; exact at22 hlo h1
        · rw [rd_lo (A := fun _ => True) hlo (M0 k) k h h22]; exact h1
      · rcases (show k = 61 ∨ k = 62 ∨ k = 63 ∨ k = 64 ∨ k = 65 ∨ k = 66 ∨ k = 67 ∨ k = 68 ∨ k = 69 ∨ k = 70 by omega) with rfl | rfl | rfl | rfl | rfl | rfl | rfl | rfl | rfl | rfl
        · show va_at G.1 cls (ad2 61, .inr (8, [.ref (ad2 62), .int 0, .ref (ad2 63), .ref (ad2 64), .ref (ad2 65), .ref (ad2 66), .ref (ad2 67), .ref (ad2 68), .ref (ad2 69), .int 0, .int 0, .int 0, .ref (ad2 70), .long (l64 (M0 61 13) (M0 61 14))])) H; rw [a61, a62, a63, a64, a65, a66, a67, a68, a69, a70]; exact hP 0 _ rfl
        · show va_at G.1 cls (ad2 62, .inl (G.2.1, 2270, .inl (fun _ => 0))) H; rw [a62]; exact hP _ _ hn1
        · show va_at G.1 cls (ad2 63, .inl (G.2.1, 48, .inl (fun _ => 0))) H; rw [a63]; exact hP _ _ hn2
        · show va_at G.1 cls (ad2 64, .inl (G.2.1, 8, .inl (fun _ => 0))) H; rw [a64]; exact hP _ _ hn3
        · show va_at G.1 cls (ad2 65, .inl (G.2.2.1, 8, .inl (fun _ => 0))) H; rw [a65]; exact hP _ _ hn4
        · show va_at G.1 cls (ad2 66, .inl (G.2.1, 256, .inl (fun _ => 0))) H; rw [a66]; exact hP _ _ hn5
        · show va_at G.1 cls (ad2 67, .inl (G.2.1, 256, .inl (fun _ => 0))) H; rw [a67]; exact hP _ _ hn6
        · show va_at G.1 cls (ad2 68, .inl (G.2.2.1, 256, .inl (fun _ => 0))) H; rw [a68]; exact hP _ _ hn7
        · show va_at G.1 cls (ad2 69, .inl (G.2.1, 80, .inl (fun _ => 0))) H; rw [a69]; exact hP _ _ hn8
        · show va_at G.1 cls (ad2 70, .inl (G.2.2.1, 216, .inl (fun _ => 0))) H; rw [a70]; exact hP _ _ hn9
    intro k q hq
    have hk : k < 71 := by have := (List.getElem?_eq_some_iff.mp hq).1; simpa [wsL] using this
    have h := wsL_at (mkX G ad2 (va_A ((h0, .inr (8, [.null, .int 0, .null, .null, .null, .null, .null, .null, .null, .int 0, .int 0, .int 0, .null, .long 0])) :: cwL G ad) s.heap.size)) M0 hk rfl
    have e1 := Option.some.inj (hq.symm.trans h)
    rw [e1]; exact at0 k hk
  have hk : kn (mkX G ad2 (va_A ((h0, .inr (8, [.null, .int 0, .null, .null, .null, .null, .null, .null, .null, .int 0, .int 0, .int 0, .null, .long 0])) :: cwL G ad) s.heap.size)) s := ⟨hK.1, hK.2.1, hDD⟩
  have hZ : Fx p c m s ([.ref h0] : List Value).toArray (mkX G ad2 (va_A ((h0, .inr (8, [.null, .int 0, .null, .null, .null, .null, .null, .null, .null, .int 0, .int 0, .int 0, .null, .long 0])) :: cwL G ad) s.heap.size)) cX8_init 1 RX8 := ⟨hx, hb, hml, hts, hown, hk⟩
  refine W.widen (k := 9) (n := 3398) (Nat.le_of_ble_eq_true rfl) (Nat.le_of_ble_eq_true rfl) ?_
  refine W.eq (g2 := F0 m 82 ls [.ref (ad2 61)]) (by rw [a61]) ?_
  refine k_X8_lays (X := (mkX G ad2 (va_A ((h0, .inr (8, [.null, .int 0, .null, .null, .null, .null, .null, .null, .null, .int 0, .int 0, .int 0, .null, .long 0])) :: cwL G ad) s.heap.size))) (g := g) (M := M0) (M9 := M1) hZ hPP hS hl.1 wd_3_171 ⟨(Nat.le_of_ble_eq_true rfl), (Nat.le_of_ble_eq_true rfl)⟩ (Nat.le_of_ble_eq_true rfl) dX8_init_82 ⟨(Nat.le_of_ble_eq_true rfl), (Nat.le_of_ble_eq_true rfl)⟩ hf (fun H locs hP hS => ?_)
  exact vretC hx hb hr hlocks ⟨ad2, hlo, a61, rfl⟩ hP (hDD M1) hS dX8_init_85
