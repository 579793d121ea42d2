/-! ===== memory: cell number, place -> int; loops; the world of all cells ===== -/
abbrev Mem : Type := Nat → Nat → Int32
abbrev ix (i : Int32) : Nat := i.toNatClampNeg
def st (M : Mem) (k j : Nat) (v : Int32) : Mem := fun a => if a = k then upd (M k) j v else M a
def stf (M : Mem) (k : Nat) (f : Nat → Int32) : Mem := fun a => if a = k then f else M a
def bv {α β : Type} (a : α) (f : α → β) : β := f a
def lpN {σ ρ : Type} : Nat → (σ → Option (σ ⊕ ρ)) → σ → Option ρ
  | 0, _, _ => none
  | n + 1, b, s => match b s with
    | none => none
    | some (.inl s') => lpN n b s'
    | some (.inr r) => some r
theorem lp_rule {σ ρ : Type} {b : σ → Option (σ ⊕ ρ)} {P : σ → Prop} {K : ρ → Prop} (h : ∀ (s : σ) (o : σ ⊕ ρ), b s = some o → (∀ s', o = .inl s' → P s') → (∀ r, o = .inr r → K r) → P s) : ∀ (n : Nat) (s : σ) (r : ρ), lpN n b s = some r → K r → P s := by
  intro n
  induction n with
  | zero => intro s r hr; cases hr
  | succ n ih =>
    intro s r hr hK
    unfold lpN at hr
    cases hb : b s with
    | none => rw [hb] at hr; cases hr
    | some o =>
      rw [hb] at hr
      refine h s o hb (fun s' e => ?_) (fun r' e => ?_)
      · subst e; exact ih s' r hr hK
      · subst e; cases hr; exact hK
theorem g_if {c : Prop} [Decidable c] {α : Type} {x : Option α} {r : α} (h : (if c then x else none) = some r) : c ∧ x = some r := by
  by_cases q : c
  · rw [if_pos q] at h; exact ⟨q, h⟩
  · rw [if_neg q] at h; cases h
theorem i_t {c : Prop} [Decidable c] {α : Type} {x y r : α} (q : c) (h : (if c then x else y) = r) : x = r := by rw [if_pos q] at h; exact h
theorem i_f {c : Prop} [Decidable c] {α : Type} {x y r : α} (q : ¬ c) (h : (if c then x else y) = r) : y = r := by rw [if_neg q] at h; exact h
theorem b_v {α β : Type} {a : α} {f : α → β} {r : β} (h : bv a f = r) {y : α} (e : y = a) : f y = r := by subst e; exact h
theorem b_d {α β : Type} {x : Option α} {f : α → Option β} {r : β} (h : x.bind f = some r) : ∃ y, x = some y ∧ f y = some r := by
  cases x with
  | none => cases h
  | some y => exact ⟨y, rfl, h⟩
/-- a boolean on the stack -/
abbrev isZ (v : Int32) : Prop := v = 0 ∨ v = 1
theorem isZ_nar {v : Int32} (h : isZ v) : narrow .boolean (.int v) = .int v := by rcases h with rfl | rfl <;> rfl
theorem isZ_vp {v : Int32} (h : isZ v) : vp_nar .boolean v = v := by rcases h with rfl | rfl <;> rfl
theorem isZ_fit {v : Int32} (h : isZ v) : fits .boolean (.int v) = true := by rcases h with rfl | rfl <;> rfl
theorem isZ_0 : isZ 0 := Or.inl rfl
theorem isZ_1 : isZ 1 := Or.inr rfl
/-- an index within (decidable) -/
abbrev inb (i : Int32) (n : Nat) : Prop := ¬ (i < 0 ∨ n ≤ i.toNatClampNeg)
def rm (x y : Int32) : Int32 := x - x / y * y
def sl (x y : Int32) : Int32 := x <<< (y &&& 31)
def sr (x y : Int32) : Int32 := x >>> (y &&& 31)
def us (x y : Int32) : Int32 := (x.toUInt32 >>> (y.toUInt32 &&& Int32.toUInt32 31)).toInt32
def mn (x y : Int32) : Int32 := if y < x then y else x
def mx (x y : Int32) : Int32 := if x < y then y else x
def u2 {A B T : Type} (f : A → B → T) (q : A × B) : T := f q.1 q.2
def u3 {A B C T : Type} (f : A → B → C → T) (q : A × B × C) : T := f q.1 q.2.1 q.2.2
def u4 {A B C D T : Type} (f : A → B → C → D → T) (q : A × B × C × D) : T := f q.1 q.2.1 q.2.2.1 q.2.2.2
def u5 {A B C D E T : Type} (f : A → B → C → D → E → T) (q : A × B × C × D × E) : T := f q.1 q.2.1 q.2.2.1 q.2.2.2.1 q.2.2.2.2
def u1 {A T : Type} (f : A → T) (q : A) : T := f q
theorem u1_e {A T : Type} {f : A → T} {a : A} {r : T} (h : u1 f a = r) : f a = r := h
theorem u2_e {A B T : Type} {f : A → B → T} {a : A} {b : B} {r : T} (h : u2 f (a, b) = r) : f a b = r := h
theorem u3_e {A B C T : Type} {f : A → B → C → T} {a : A} {b : B} {c : C} {r : T} (h : u3 f (a, b, c) = r) : f a b c = r := h
theorem u4_e {A B C D T : Type} {f : A → B → C → D → T} {a : A} {b : B} {c : C} {d : D} {r : T} (h : u4 f (a, b, c, d) = r) : f a b c d = r := h
theorem u5_e {A B C D E T : Type} {f : A → B → C → D → E → T} {a : A} {b : B} {c : C} {d : D} {e : E} {r : T} (h : u5 f (a, b, c, d, e) = r) : f a b c d e = r := h
def el {A B T : Type} (f : A → T) (h : B → T) (q : A ⊕ B) : T := match q with
  | .inl a => f a
  | .inr b => h b
theorem el_l {A B T : Type} {f : A → T} {h : B → T} {a : A} {r : T} (e : el f h (.inl a) = r) : f a = r := e
theorem el_r {A B T : Type} {f : A → T} {h : B → T} {b : B} {r : T} (e : el f h (.inr b) = r) : h b = r := e
/-! longs in two places -/
def lhi (v : Int64) : Int32 := Int32.ofInt (v.toInt / 4294967296)
def llo (v : Int64) : Int32 := Int32.ofInt v.toInt
def l64 (h q : Int32) : Int64 := Int64.ofInt (h.toInt * 4294967296 + q.toInt % 4294967296)
theorem l64_eq (v : Int64) : l64 (lhi v) (llo v) = v := by
  have h1 := v.toInt_lt
  have h2 := v.le_toInt
  unfold l64 lhi llo
  rw [Int32.toInt_ofInt, Int32.toInt_ofInt, Int.bmod_def, Int.bmod_def]
  apply Int64.toInt_inj.mp
  rw [Int64.toInt_ofInt, Int.bmod_def]
  simp only [Int32.size, Int64.size] at *
  omega
def stl (M : Mem) (k j : Nat) (v : Int64) : Mem := stf M k (upd (upd (M k) j (lhi v)) (j + 1) (llo v))
def scp (M : Mem) (k0 k1 n : Nat) : Mem := stf M k1 (va_cpy (M k0) (M k1) 0 0 n)
/-! ===== the cells ===== -/
abbrev cls : List vw_C := [(RX0, TX0, 1), (RX1, TX1, 5), (RX2, TX2, 3), (RX3, TX3, 5), (RX4, TX4, 9), (RX5, TX5, 6), (RX6, TX6, 7), (RX7, TX7, 12), (RX8, TX8, 14)]
/-- the numbers of classes, the classes of arrays (int, boolean, Frame), the cells' addresses, which cells are ours -/
abbrev En : Type := va_G × (ClassId × ClassId × ClassId) × (Nat → Nat) × (Nat → Prop)
abbrev En.D (X : En) : va_G := X.1
abbrev En.cI (X : En) : ClassId := X.2.1.1
abbrev En.cZ (X : En) : ClassId := X.2.1.2.1
abbrev En.cF (X : En) : ClassId := X.2.1.2.2
abbrev En.ad (X : En) : Nat → Nat := X.2.2.1
abbrev En.A (X : En) : Nat → Prop := X.2.2.2
def eI (X : En) (n : Nat) : (Nat → Int32) → va_E := fun f => .inl (X.cI, n, .inl f)
def eZ (X : En) (n : Nat) : (Nat → Int32) → va_E := fun f => .inl (X.cZ, n, .inl f)
def eFr (X : En) (k : Nat) : (Nat → Int32) → va_E := fun f => .inr (1, [.ref (X.ad (k + 1)), .ref (X.ad (k + 2)), .int (f 2), .int (f 3), .int (f 4)])
def eBx (X : En) (k : Nat) : (Nat → Int32) → va_E := fun _ => .inr (0, [.ref (X.ad (k + 1))])
def eRe (X : En) (k : Nat) : (Nat → Int32) → va_E := fun f => .inr (5, [.ref (X.ad (k + 1)), .ref (X.ad (k + 2)), .ref (X.ad (k + 3)), .ref (X.ad (k + 4)), .int (f 4), .int (f 5)])
def eRai (X : En) : (Nat → Int32) → va_E := fun f => .inr (7, [.ref (X.ad 1), .ref (X.ad 4), .ref (X.ad 9), .ref (X.ad 14), .ref (X.ad 21), .ref (X.ad 47), .ref (X.ad 51), .ref (X.ad 53), .ref (X.ad 56), .int (f 9), .int (f 10), .int (f 11)])
def eMea (X : En) : (Nat → Int32) → va_E := fun f => .inr (3, [.ref (X.ad 5), .ref (X.ad 6), .ref (X.ad 7), .ref (X.ad 8), .int (f 4)])
def ePla (X : En) : (Nat → Int32) → va_E := fun f => .inr (4, [.ref (X.ad 15), .ref (X.ad 16), .ref (X.ad 17), .ref (X.ad 18), .int (f 4), .ref (X.ad 9), .ref (X.ad 19), .ref (X.ad 20), .int (f 8)])
def eHis (X : En) : (Nat → Int32) → va_E := fun f => .inr (2, [.int (f 0), .ref (X.ad 22), .int (f 2)])
def eSta (X : En) : (Nat → Int32) → va_E := fun _ => .inl (X.cF, 8, .inr (.inr (.inr (.inr (fun j => some (X.ad (23 + 3 * j)))))))
def eTex (X : En) : (Nat → Int32) → va_E := fun f => .inr (6, [.int (f 0), .int (f 1), .ref (X.ad 48), .ref (X.ad 49), .int (f 4), .int (f 5), .int (f 6)])
def eMod (X : En) : (Nat → Int32) → va_E := fun f => .inr (8, [.ref (X.ad 62), .int (f 1), .ref (X.ad 63), .ref (X.ad 64), .ref (X.ad 65), .ref (X.ad 66), .ref (X.ad 67), .ref (X.ad 68), .ref (X.ad 69), .int (f 9), .int (f 10), .int (f 11), .ref (X.ad 70), .long (l64 (f 13) (f 14))])
def rdL (X : En) : List ((Nat → Int32) → va_E) := [eRai X, eFr X 1, eI X 216, eI X 8, eMea X, eI X 8, eI X 8, eI X 24, eI X 24, eRe X 9, eI X 64, eI X 48, eI X 8, eI X 8, ePla X, eI X 256, eI X 256, eI X 8, eI X 8, eI X 256, eZ X 256, eHis X, eSta X, eFr X 23, eI X 216, eI X 8, eFr X 26, eI X 216, eI X 8, eFr X 29, eI X 216, eI X 8, eFr X 32, eI X 216, eI X 8, eFr X 35, eI X 216, eI X 8, eFr X 38, eI X 216, eI X 8, eFr X 41, eI X 216, eI X 8, eFr X 44, eI X 216, eI X 8, eTex X, eI X 80, eBx X 49, eI X 6, eBx X 51, eI X 6, eFr X 53, eI X 216, eI X 8, eRe X 56, eI X 64, eI X 48, eI X 8, eI X 8, eMod X, eI X 2270, eI X 48, eI X 8, eZ X 8, eI X 256, eI X 256, eZ X 256, eI X 80, eZ X 216]
def rd (X : En) (k : Nat) (f : Nat → Int32) : va_E := (rdL X).getD k (eBx X 0) f
def wsL (X : En) (M : Mem) : va_W := (List.range 71).map (fun k => (X.ad k, rd X k (M k)))
abbrev tyL (X : En) : List (ClassId × FieldType) := [(X.cI, .int), (X.cZ, .boolean), (X.cF, .object RX1)]
def wd (X : En) (M : Mem) (H : Heap) : Prop := va_P X.D cls (wsL X M) H
def kn (X : En) (U : State) : Prop := va_K X.D cls (tyL X) U ∧ nest U ∧ ∀ M, va_D X.A (wsL X M)
theorem wsL_at (X : En) (M : Mem) {k : Nat} (hk : k < 71) {e : va_E} (he : rd X k (M k) = e) : (wsL X M)[k]? = some (X.ad k, e) := by
  unfold wsL
  rw [List.getElem?_map, List.getElem?_range hk, ← he]
  rfl
theorem wsL_set (X : En) (M : Mem) {k : Nat} (hk : k < 71) {f : Nat → Int32} {e : va_E} (he : rd X k f = e) : (wsL X M).set k (X.ad k, e) = wsL X (stf M k f) := by
  apply List.ext_getElem?
  intro i
  unfold wsL
  rw [List.getElem?_set]
  by_cases h : k = i
  · subst h
    rw [if_pos rfl, if_pos (by simpa using hk), List.getElem?_map, List.getElem?_range hk, ← he]
    simp [stf]
  · rw [if_neg h, List.getElem?_map, List.getElem?_map]
    by_cases hi : i < 71
    · rw [List.getElem?_range hi]
      simp [stf, Ne.symm h]
    · rw [List.getElem?_eq_none (by simpa using hi)]
      rfl
theorem st_stf (M : Mem) (k j : Nat) (v : Int32) : stf M k (upd (M k) j v) = st M k j v := rfl
theorem kn_moved {X : En} {u U : State} (hW : u.WarmedH U.vm) (h : kn X u) : kn X U := ⟨va_K.moved hW.alike h.1, nest_warm hW h.2.1, h.2.2⟩
/-- which numbers are Frames, Boxes, Relations -/
def isF (k : Nat) : Prop := k = 1 ∨ k = 53 ∨ ∃ j, j < 8 ∧ k = 23 + 3 * j
def isB (k : Nat) : Prop := k = 49 ∨ k = 51
def isR (k : Nat) : Prop := k = 9 ∨ k = 56
theorem isF_cases {k : Nat} (h : isF k) : k = 1 ∨ k = 53 ∨ k = 23 ∨ k = 26 ∨ k = 29 ∨ k = 32 ∨ k = 35 ∨ k = 38 ∨ k = 41 ∨ k = 44 := by
  rcases h with h | h | ⟨j, h1, h2⟩ <;> omega
theorem isF_1 : isF 1 := Or.inl rfl
theorem isF_53 : isF 53 := Or.inr (Or.inl rfl)
theorem isF_h {i : Int32} (h : vp_in i 8) : isF (23 + 3 * ix i) := Or.inr (Or.inr ⟨ix i, Nat.not_le.mp fun q => h (Or.inr q), rfl⟩)
theorem isB_49 : isB 49 := Or.inl rfl
theorem isB_51 : isB 51 := Or.inr rfl
theorem isR_9 : isR 9 := Or.inl rfl
theorem isR_56 : isR 56 := Or.inr rfl
theorem isF_lt {k : Nat} (h : isF k) : k + 2 < 71 := by rcases h with h | h | ⟨j, h1, h2⟩ <;> omega
theorem isF_lt0 {k : Nat} (h : isF k) : k < 71 := by have := isF_lt h; omega
theorem isF_lt1 {k : Nat} (h : isF k) : k + 1 < 71 := by have := isF_lt h; omega
theorem isB_lt0 {k : Nat} (h : isB k) : k < 71 := by rcases h with h | h <;> omega
theorem isB_lt1 {k : Nat} (h : isB k) : k + 1 < 71 := by rcases h with h | h <;> omega
theorem isR_lt0 {k : Nat} (h : isR k) : k < 71 := by rcases h with h | h <;> omega
theorem isR_lt1 {k : Nat} (h : isR k) : k + 1 < 71 := by rcases h with h | h <;> omega
theorem isR_lt2 {k : Nat} (h : isR k) : k + 2 < 71 := by rcases h with h | h <;> omega
theorem isR_lt3 {k : Nat} (h : isR k) : k + 3 < 71 := by rcases h with h | h <;> omega
theorem isR_lt4 {k : Nat} (h : isR k) : k + 4 < 71 := by rcases h with h | h <;> omega
theorem rd_F0 {X : En} {k : Nat} (h : isF k) (f : Nat → Int32) : rd X k f = eFr X k f := by rcases isF_cases h with h | h | h | h | h | h | h | h | h | h <;> subst h <;> rfl
theorem rd_F1 {X : En} {k : Nat} (h : isF k) (f : Nat → Int32) : rd X (k + 1) f = eI X 216 f := by rcases isF_cases h with h | h | h | h | h | h | h | h | h | h <;> subst h <;> rfl
theorem rd_F2 {X : En} {k : Nat} (h : isF k) (f : Nat → Int32) : rd X (k + 2) f = eI X 8 f := by rcases isF_cases h with h | h | h | h | h | h | h | h | h | h <;> subst h <;> rfl
theorem rd_B0 {X : En} {k : Nat} (h : isB k) (f : Nat → Int32) : rd X k f = eBx X k f := by rcases h with h | h <;> subst h <;> rfl
theorem rd_B1 {X : En} {k : Nat} (h : isB k) (f : Nat → Int32) : rd X (k + 1) f = eI X 6 f := by rcases h with h | h <;> subst h <;> rfl
theorem rd_R0 {X : En} {k : Nat} (h : isR k) (f : Nat → Int32) : rd X k f = eRe X k f := by rcases h with h | h <;> subst h <;> rfl
theorem rd_R1 {X : En} {k : Nat} (h : isR k) (f : Nat → Int32) : rd X (k + 1) f = eI X 64 f := by rcases h with h | h <;> subst h <;> rfl
theorem rd_R2 {X : En} {k : Nat} (h : isR k) (f : Nat → Int32) : rd X (k + 2) f = eI X 48 f := by rcases h with h | h <;> subst h <;> rfl
theorem rd_R3 {X : En} {k : Nat} (h : isR k) (f : Nat → Int32) : rd X (k + 3) f = eI X 8 f := by rcases h with h | h <;> subst h <;> rfl
theorem rd_R4 {X : En} {k : Nat} (h : isR k) (f : Nat → Int32) : rd X (k + 4) f = eI X 8 f := by rcases h with h | h <;> subst h <;> rfl
theorem hash_set (X : En) (M : Mem) (v : Int64) : rd X 61 (upd (upd (M 61) 13 (lhi v)) 14 (llo v)) = .inr (8, ([.ref (X.ad 62), .int (M 61 1), .ref (X.ad 63), .ref (X.ad 64), .ref (X.ad 65), .ref (X.ad 66), .ref (X.ad 67), .ref (X.ad 68), .ref (X.ad 69), .int (M 61 9), .int (M 61 10), .int (M 61 11), .ref (X.ad 70), .long (l64 (M 61 13) (M 61 14))] : List Value).set 13 (.long v)) := by
  show eMod X _ = _
  simp [eMod, upd, l64_eq]
theorem sw_out7 {x : Int32} (h0 : ¬ x = 0) (h1 : ¬ x = 1) (h2 : ¬ x = 2) (h3 : ¬ x = 3) (h4 : ¬ x = 4) (h5 : ¬ x = 5) (h6 : ¬ x = 6) : x.toInt < 0 ∨ 6 < x.toInt := by
  rcases Int.lt_or_le x.toInt 0 with h | h
  · exact Or.inl h
  · refine Or.inr (Int.lt_of_not_ge fun q => ?_)
    have e : x.toInt = 0 ∨ x.toInt = 1 ∨ x.toInt = 2 ∨ x.toInt = 3 ∨ x.toInt = 4 ∨ x.toInt = 5 ∨ x.toInt = 6 := by omega
    rcases e with e | e | e | e | e | e | e
    · exact h0 (Int32.toInt_inj.mp e)
    · exact h1 (Int32.toInt_inj.mp e)
    · exact h2 (Int32.toInt_inj.mp e)
    · exact h3 (Int32.toInt_inj.mp e)
    · exact h4 (Int32.toInt_inj.mp e)
    · exact h5 (Int32.toInt_inj.mp e)
    · exact h6 (Int32.toInt_inj.mp e)
