/-! ===== the class's cells, by number ===== -/
def own0 (k : Nat) : Bool := k == 2 || k == 54 || (Nat.ble 24 k && Nat.ble k 45 && k % 3 == 0)
def M0 : Mem := fun k => if k = 14 then (fun j => if j = 8 then -1 else 0) else if own0 k then fO else fun _ => 0
abbrev mkX (G : E3) (ad : Nat → Nat) (A : Nat → Prop) : En := (G.1, G.2, ad, A)
def cwL (G : E3) (ad : Nat → Nat) : va_W := (List.range 61).map (fun k => (ad k, rd (mkX G ad (fun _ => True)) k (M0 k)))
theorem cwL_at (G : E3) (ad : Nat → Nat) {k : Nat} (hk : k < 61) : (cwL G ad)[k]? = some (ad k, rd (mkX G ad (fun _ => True)) k (M0 k)) := by
  unfold cwL
  rw [List.getElem?_map, List.getElem?_range hk]
  rfl
theorem cwL_len (G : E3) (ad : Nat → Nat) : (cwL G ad).length = 61 := by unfold cwL; simp
theorem vp_cell_q8 {cA : ClassId} {n : Nat} {f f2 : Nat → Option Nat} (h : ∀ j, j < n → f j = f2 j) : vp_cell cA (n, .inr (.inr (.inr (.inr f)))) = vp_cell cA (n, .inr (.inr (.inr (.inr f2)))) := by
  rw [vp_cell_q, vp_cell_q]
  unfold arrV
  congr 2
  funext j
  show va_rf (f j.val) = va_rf (f2 j.val)
  rw [h j.val j.isLt]
set_option maxHeartbeats 4000000 in
set_option maxRecDepth 100000 in
theorem cw_of {G : E3} {A : Nat → Prop} {H : Heap} {h0 b1 b2 b3 b4 b5 b6 b7 b8 b9 b10 b11 b12 b13 b14 b15 b16 b17 b18 b19 b20 b21 b22 b23 b24 b25 b26 b27 b28 b29 b30 b31 b32 b33 b34 b35 b36 b37 b38 b39 b40 b41 b42 b43 b44 b45 b46 b47 b48 b49 b50 b51 b52 b53 b54 b55 b56 b57 b58 b59 b60 : Nat} (hP : va_P G.1 cls ([(h0, .inr (7, [.ref b1, .ref b4, .ref b9, .ref b14, .ref b21, .ref b47, .ref b51, .ref b53, .ref b56, .int 0, .int 0, .int 0])), (b1, .inr (1, [.ref b2, .ref b3, .int 0, .int 0, .int 0])), (b2, .inl (G.2.1, 216, .inl fO)), (b3, .inl (G.2.1, 8, .inl (fun _ => 0))), (b4, .inr (3, [.ref b5, .ref b6, .ref b7, .ref b8, .int 0])), (b5, .inl (G.2.1, 8, .inl (fun _ => 0))), (b6, .inl (G.2.1, 8, .inl (fun _ => 0))), (b7, .inl (G.2.1, 24, .inl (fun _ => 0))), (b8, .inl (G.2.1, 24, .inl (fun _ => 0))), (b9, .inr (5, [.ref b10, .ref b11, .ref b12, .ref b13, .int 0, .int 0])), (b10, .inl (G.2.1, 64, .inl (fun _ => 0))), (b11, .inl (G.2.1, 48, .inl (fun _ => 0))), (b12, .inl (G.2.1, 8, .inl (fun _ => 0))), (b13, .inl (G.2.1, 8, .inl (fun _ => 0))), (b14, .inr (4, [.ref b15, .ref b16, .ref b17, .ref b18, .int 0, .ref b9, .ref b19, .ref b20, .int (-1 : Int32)])), (b15, .inl (G.2.1, 256, .inl (fun _ => 0))), (b16, .inl (G.2.1, 256, .inl (fun _ => 0))), (b17, .inl (G.2.1, 8, .inl (fun _ => 0))), (b18, .inl (G.2.1, 8, .inl (fun _ => 0))), (b19, .inl (G.2.1, 256, .inl (fun _ => 0))), (b20, .inl (G.2.2.1, 256, .inl (fun _ => 0))), (b21, .inr (2, [.int 0, .ref b22, .int 0])), (b22, .inl (G.2.2.2, 8, .inr (.inr (.inr (.inr (va_up (va_up (va_up (va_up (va_up (va_up (va_up (va_up (fun _ => none) 0 (some b23)) 1 (some b26)) 2 (some b29)) 3 (some b32)) 4 (some b35)) 5 (some b38)) 6 (some b41)) 7 (some b44))))))), (b23, .inr (1, [.ref b24, .ref b25, .int 0, .int 0, .int 0])), (b24, .inl (G.2.1, 216, .inl fO)), (b25, .inl (G.2.1, 8, .inl (fun _ => 0))), (b26, .inr (1, [.ref b27, .ref b28, .int 0, .int 0, .int 0])), (b27, .inl (G.2.1, 216, .inl fO)), (b28, .inl (G.2.1, 8, .inl (fun _ => 0))), (b29, .inr (1, [.ref b30, .ref b31, .int 0, .int 0, .int 0]))] ++ ([(b30, .inl (G.2.1, 216, .inl fO)), (b31, .inl (G.2.1, 8, .inl (fun _ => 0))), (b32, .inr (1, [.ref b33, .ref b34, .int 0, .int 0, .int 0])), (b33, .inl (G.2.1, 216, .inl fO)), (b34, .inl (G.2.1, 8, .inl (fun _ => 0))), (b35, .inr (1, [.ref b36, .ref b37, .int 0, .int 0, .int 0])), (b36, .inl (G.2.1, 216, .inl fO)), (b37, .inl (G.2.1, 8, .inl (fun _ => 0))), (b38, .inr (1, [.ref b39, .ref b40, .int 0, .int 0, .int 0])), (b39, .inl (G.2.1, 216, .inl fO)), (b40, .inl (G.2.1, 8, .inl (fun _ => 0))), (b41, .inr (1, [.ref b42, .ref b43, .int 0, .int 0, .int 0])), (b42, .inl (G.2.1, 216, .inl fO)), (b43, .inl (G.2.1, 8, .inl (fun _ => 0))), (b44, .inr (1, [.ref b45, .ref b46, .int 0, .int 0, .int 0])), (b45, .inl (G.2.1, 216, .inl fO)), (b46, .inl (G.2.1, 8, .inl (fun _ => 0))), (b47, .inr (6, [.int 0, .int 0, .ref b48, .ref b49, .int 0, .int 0, .int 0])), (b48, .inl (G.2.1, 80, .inl (fun _ => 0))), (b49, .inr (0, [.ref b50])), (b50, .inl (G.2.1, 6, .inl (fun _ => 0))), (b51, .inr (0, [.ref b52])), (b52, .inl (G.2.1, 6, .inl (fun _ => 0))), (b53, .inr (1, [.ref b54, .ref b55, .int 0, .int 0, .int 0])), (b54, .inl (G.2.1, 216, .inl fO)), (b55, .inl (G.2.1, 8, .inl (fun _ => 0))), (b56, .inr (5, [.ref b57, .ref b58, .ref b59, .ref b60, .int 0, .int 0])), (b57, .inl (G.2.1, 64, .inl (fun _ => 0))), (b58, .inl (G.2.1, 48, .inl (fun _ => 0))), (b59, .inl (G.2.1, 8, .inl (fun _ => 0)))] ++ [(b60, .inl (G.2.1, 8, .inl (fun _ => 0)))])) H) (hD : va_D A ([(h0, .inr (7, [.ref b1, .ref b4, .ref b9, .ref b14, .ref b21, .ref b47, .ref b51, .ref b53, .ref b56, .int 0, .int 0, .int 0])), (b1, .inr (1, [.ref b2, .ref b3, .int 0, .int 0, .int 0])), (b2, .inl (G.2.1, 216, .inl fO)), (b3, .inl (G.2.1, 8, .inl (fun _ => 0))), (b4, .inr (3, [.ref b5, .ref b6, .ref b7, .ref b8, .int 0])), (b5, .inl (G.2.1, 8, .inl (fun _ => 0))), (b6, .inl (G.2.1, 8, .inl (fun _ => 0))), (b7, .inl (G.2.1, 24, .inl (fun _ => 0))), (b8, .inl (G.2.1, 24, .inl (fun _ => 0))), (b9, .inr (5, [.ref b10, .ref b11, .ref b12, .ref b13, .int 0, .int 0])), (b10, .inl (G.2.1, 64, .inl (fun _ => 0))), (b11, .inl (G.2.1, 48, .inl (fun _ => 0))), (b12, .inl (G.2.1, 8, .inl (fun _ => 0))), (b13, .inl (G.2.1, 8, .inl (fun _ => 0))), (b14, .inr (4, [.ref b15, .ref b16, .ref b17, .ref b18, .int 0, .ref b9, .ref b19, .ref b20, .int (-1 : Int32)])), (b15, .inl (G.2.1, 256, .inl (fun _ => 0))), (b16, .inl (G.2.1, 256, .inl (fun _ => 0))), (b17, .inl (G.2.1, 8, .inl (fun _ => 0))), (b18, .inl (G.2.1, 8, .inl (fun _ => 0))), (b19, .inl (G.2.1, 256, .inl (fun _ => 0))), (b20, .inl (G.2.2.1, 256, .inl (fun _ => 0))), (b21, .inr (2, [.int 0, .ref b22, .int 0])), (b22, .inl (G.2.2.2, 8, .inr (.inr (.inr (.inr (va_up (va_up (va_up (va_up (va_up (va_up (va_up (va_up (fun _ => none) 0 (some b23)) 1 (some b26)) 2 (some b29)) 3 (some b32)) 4 (some b35)) 5 (some b38)) 6 (some b41)) 7 (some b44))))))), (b23, .inr (1, [.ref b24, .ref b25, .int 0, .int 0, .int 0])), (b24, .inl (G.2.1, 216, .inl fO)), (b25, .inl (G.2.1, 8, .inl (fun _ => 0))), (b26, .inr (1, [.ref b27, .ref b28, .int 0, .int 0, .int 0])), (b27, .inl (G.2.1, 216, .inl fO)), (b28, .inl (G.2.1, 8, .inl (fun _ => 0))), (b29, .inr (1, [.ref b30, .ref b31, .int 0, .int 0, .int 0]))] ++ ([(b30, .inl (G.2.1, 216, .inl fO)), (b31, .inl (G.2.1, 8, .inl (fun _ => 0))), (b32, .inr (1, [.ref b33, .ref b34, .int 0, .int 0, .int 0])), (b33, .inl (G.2.1, 216, .inl fO)), (b34, .inl (G.2.1, 8, .inl (fun _ => 0))), (b35, .inr (1, [.ref b36, .ref b37, .int 0, .int 0, .int 0])), (b36, .inl (G.2.1, 216, .inl fO)), (b37, .inl (G.2.1, 8, .inl (fun _ => 0))), (b38, .inr (1, [.ref b39, .ref b40, .int 0, .int 0, .int 0])), (b39, .inl (G.2.1, 216, .inl fO)), (b40, .inl (G.2.1, 8, .inl (fun _ => 0))), (b41, .inr (1, [.ref b42, .ref b43, .int 0, .int 0, .int 0])), (b42, .inl (G.2.1, 216, .inl fO)), (b43, .inl (G.2.1, 8, .inl (fun _ => 0))), (b44, .inr (1, [.ref b45, .ref b46, .int 0, .int 0, .int 0])), (b45, .inl (G.2.1, 216, .inl fO)), (b46, .inl (G.2.1, 8, .inl (fun _ => 0))), (b47, .inr (6, [.int 0, .int 0, .ref b48, .ref b49, .int 0, .int 0, .int 0])), (b48, .inl (G.2.1, 80, .inl (fun _ => 0))), (b49, .inr (0, [.ref b50])), (b50, .inl (G.2.1, 6, .inl (fun _ => 0))), (b51, .inr (0, [.ref b52])), (b52, .inl (G.2.1, 6, .inl (fun _ => 0))), (b53, .inr (1, [.ref b54, .ref b55, .int 0, .int 0, .int 0])), (b54, .inl (G.2.1, 216, .inl fO)), (b55, .inl (G.2.1, 8, .inl (fun _ => 0))), (b56, .inr (5, [.ref b57, .ref b58, .ref b59, .ref b60, .int 0, .int 0])), (b57, .inl (G.2.1, 64, .inl (fun _ => 0))), (b58, .inl (G.2.1, 48, .inl (fun _ => 0))), (b59, .inl (G.2.1, 8, .inl (fun _ => 0)))] ++ [(b60, .inl (G.2.1, 8, .inl (fun _ => 0)))]))) : ∃ ad : Nat → Nat, ad 0 = h0 ∧ va_P G.1 cls (cwL G ad) H ∧ va_D A (cwL G ad) := by
  obtain ⟨ad, had⟩ : ∃ ad : Nat → Nat, ad = fun k => ([h0, b1, b2, b3, b4, b5, b6, b7, b8, b9, b10, b11, b12, b13, b14, b15, b16, b17, b18, b19, b20, b21, b22, b23, b24, b25, b26, b27, b28, b29, b30, b31, b32, b33, b34, b35, b36, b37, b38, b39, b40, b41, b42, b43, b44, b45, b46, b47, b48, b49, b50, b51, b52, b53, b54, b55, b56, b57, b58, b59, b60] : List Nat).getD k 0 := ⟨_, rfl⟩
  have a0 : ad 0 = h0 := by rw [had]; rfl
  have a1 : ad 1 = b1 := by rw [had]; rfl
  have a2 : ad 2 = b2 := by rw [had]; rfl
  have a3 : ad 3 = b3 := by rw [had]; rfl
  have a4 : ad 4 = b4 := by rw [had]; rfl
  have a5 : ad 5 = b5 := by rw [had]; rfl
  have a6 : ad 6 = b6 := by rw [had]; rfl
  have a7 : ad 7 = b7 := by rw [had]; rfl
  have a8 : ad 8 = b8 := by rw [had]; rfl
  have a9 : ad 9 = b9 := by rw [had]; rfl
  have a10 : ad 10 = b10 := by rw [had]; rfl
  have a11 : ad 11 = b11 := by rw [had]; rfl
  have a12 : ad 12 = b12 := by rw [had]; rfl
  have a13 : ad 13 = b13 := by rw [had]; rfl
  have a14 : ad 14 = b14 := by rw [had]; rfl
  have a15 : ad 15 = b15 := by rw [had]; rfl
  have a16 : ad 16 = b16 := by rw [had]; rfl
  have a17 : ad 17 = b17 := by rw [had]; rfl
  have a18 : ad 18 = b18 := by rw [had]; rfl
  have a19 : ad 19 = b19 := by rw [had]; rfl
  have a20 : ad 20 = b20 := by rw [had]; rfl
  have a21 : ad 21 = b21 := by rw [had]; rfl
  have a22 : ad 22 = b22 := by rw [had]; rfl
  have a23 : ad 23 = b23 := by rw [had]; rfl
  have a24 : ad 24 = b24 := by rw [had]; rfl
  have a25 : ad 25 = b25 := by rw [had]; rfl
  have a26 : ad 26 = b26 := by rw [had]; rfl
  have a27 : ad 27 = b27 := by rw [had]; rfl
  have a28 : ad 28 = b28 := by rw [had]; rfl
  have a29 : ad 29 = b29 := by rw [had]; rfl
  have a30 : ad 30 = b30 := by rw [had]; rfl
  have a31 : ad 31 = b31 := by rw [had]; rfl
  have a32 : ad 32 = b32 := by rw [had]; rfl
  have a33 : ad 33 = b33 := by rw [had]; rfl
  have a34 : ad 34 = b34 := by rw [had]; rfl
  have a35 : ad 35 = b35 := by rw [had]; rfl
  have a36 : ad 36 = b36 := by rw [had]; rfl
  have a37 : ad 37 = b37 := by rw [had]; rfl
  have a38 : ad 38 = b38 := by rw [had]; rfl
  have a39 : ad 39 = b39 := by rw [had]; rfl
  have a40 : ad 40 = b40 := by rw [had]; rfl
  have a41 : ad 41 = b41 := by rw [had]; rfl
  have a42 : ad 42 = b42 := by rw [had]; rfl
  have a43 : ad 43 = b43 := by rw [had]; rfl
  have a44 : ad 44 = b44 := by rw [had]; rfl
  have a45 : ad 45 = b45 := by rw [had]; rfl
  have a46 : ad 46 = b46 := by rw [had]; rfl
  have a47 : ad 47 = b47 := by rw [had]; rfl
  have a48 : ad 48 = b48 := by rw [had]; rfl
  have a49 : ad 49 = b49 := by rw [had]; rfl
  have a50 : ad 50 = b50 := by rw [had]; rfl
  have a51 : ad 51 = b51 := by rw [had]; rfl
  have a52 : ad 52 = b52 := by rw [had]; rfl
  have a53 : ad 53 = b53 := by rw [had]; rfl
  have a54 : ad 54 = b54 := by rw [had]; rfl
  have a55 : ad 55 = b55 := by rw [had]; rfl
  have a56 : ad 56 = b56 := by rw [had]; rfl
  have a57 : ad 57 = b57 := by rw [had]; rfl
  have a58 : ad 58 = b58 := by rw [had]; rfl
  have a59 : ad 59 = b59 := by rw [had]; rfl
  have a60 : ad 60 = b60 := by rw [had]; rfl
  clear had
  have at0 : ∀ k, k < 61 → va_at G.1 cls (ad k, rd (mkX G ad (fun _ => True)) k (M0 k)) H := by
    intro k hk
    match k, hk with
    | 0, _ => show va_at G.1 cls (ad 0, .inr (7, [.ref (ad 1), .ref (ad 4), .ref (ad 9), .ref (ad 14), .ref (ad 21), .ref (ad 47), .ref (ad 51), .ref (ad 53), .ref (ad 56), .int 0, .int 0, .int 0])) H; rw [a0, a1, a4, a9, a14, a21, a47, a51, a53, a56]; exact hP 0 _ rfl
    | 1, _ => show va_at G.1 cls (ad 1, .inr (1, [.ref (ad 2), .ref (ad 3), .int 0, .int 0, .int 0])) H; rw [a1, a2, a3]; exact hP 1 _ rfl
    | 2, _ => show va_at G.1 cls (ad 2, .inl (G.2.1, 216, .inl fO)) H; rw [a2]; exact hP 2 _ rfl
    | 3, _ => show va_at G.1 cls (ad 3, .inl (G.2.1, 8, .inl (fun _ => 0))) H; rw [a3]; exact hP 3 _ rfl
    | 4, _ => show va_at G.1 cls (ad 4, .inr (3, [.ref (ad 5), .ref (ad 6), .ref (ad 7), .ref (ad 8), .int 0])) H; rw [a4, a5, a6, a7, a8]; exact hP 4 _ rfl
    | 5, _ => show va_at G.1 cls (ad 5, .inl (G.2.1, 8, .inl (fun _ => 0))) H; rw [a5]; exact hP 5 _ rfl
    | 6, _ => show va_at G.1 cls (ad 6, .inl (G.2.1, 8, .inl (fun _ => 0))) H; rw [a6]; exact hP 6 _ rfl
    | 7, _ => show va_at G.1 cls (ad 7, .inl (G.2.1, 24, .inl (fun _ => 0))) H; rw [a7]; exact hP 7 _ rfl
    | 8, _ => show va_at G.1 cls (ad 8, .inl (G.2.1, 24, .inl (fun _ => 0))) H; rw [a8]; exact hP 8 _ rfl
    | 9, _ => show va_at G.1 cls (ad 9, .inr (5, [.ref (ad 10), .ref (ad 11), .ref (ad 12), .ref (ad 13), .int 0, .int 0])) H; rw [a9, a10, a11, a12, a13]; exact hP 9 _ rfl
    | 10, _ => show va_at G.1 cls (ad 10, .inl (G.2.1, 64, .inl (fun _ => 0))) H; rw [a10]; exact hP 10 _ rfl
    | 11, _ => show va_at G.1 cls (ad 11, .inl (G.2.1, 48, .inl (fun _ => 0))) H; rw [a11]; exact hP 11 _ rfl
    | 12, _ => show va_at G.1 cls (ad 12, .inl (G.2.1, 8, .inl (fun _ => 0))) H; rw [a12]; exact hP 12 _ rfl
    | 13, _ => show va_at G.1 cls (ad 13, .inl (G.2.1, 8, .inl (fun _ => 0))) H; rw [a13]; exact hP 13 _ rfl
    | 14, _ => show va_at G.1 cls (ad 14, .inr (4, [.ref (ad 15), .ref (ad 16), .ref (ad 17), .ref (ad 18), .int 0, .ref (ad 9), .ref (ad 19), .ref (ad 20), .int (-1 : Int32)])) H; rw [a14, a15, a16, a17, a18, a9, a19, a20]; exact hP 14 _ rfl
    | 15, _ => show va_at G.1 cls (ad 15, .inl (G.2.1, 256, .inl (fun _ => 0))) H; rw [a15]; exact hP 15 _ rfl
    | 16, _ => show va_at G.1 cls (ad 16, .inl (G.2.1, 256, .inl (fun _ => 0))) H; rw [a16]; exact hP 16 _ rfl
    | 17, _ => show va_at G.1 cls (ad 17, .inl (G.2.1, 8, .inl (fun _ => 0))) H; rw [a17]; exact hP 17 _ rfl
    | 18, _ => show va_at G.1 cls (ad 18, .inl (G.2.1, 8, .inl (fun _ => 0))) H; rw [a18]; exact hP 18 _ rfl
    | 19, _ => show va_at G.1 cls (ad 19, .inl (G.2.1, 256, .inl (fun _ => 0))) H; rw [a19]; exact hP 19 _ rfl
    | 20, _ => show va_at G.1 cls (ad 20, .inl (G.2.2.1, 256, .inl (fun _ => 0))) H; rw [a20]; exact hP 20 _ rfl
    | 21, _ => show va_at G.1 cls (ad 21, .inr (2, [.int 0, .ref (ad 22), .int 0])) H; rw [a21, a22]; exact hP 21 _ rfl
    | 22, _ =>
      have h := hP 22 _ rfl
      show H[ad 22]? = some (vp_cell G.2.2.2 (8, .inr (.inr (.inr (.inr (fun j => some (ad (23 + 3 * j))))))))
      rw [a22]
      refine Eq.trans h (congrArg some (vp_cell_q8 (fun j hj => ?_)))
      rcases (show j = 0 ∨ j = 1 ∨ j = 2 ∨ j = 3 ∨ j = 4 ∨ j = 5 ∨ j = 6 ∨ j = 7 by omega) with rfl | rfl | rfl | rfl | rfl | rfl | rfl | rfl
      · show _ = some (ad 23); rw [a23]; rfl
      · show _ = some (ad 26); rw [a26]; rfl
      · show _ = some (ad 29); rw [a29]; rfl
      · show _ = some (ad 32); rw [a32]; rfl
      · show _ = some (ad 35); rw [a35]; rfl
      · show _ = some (ad 38); rw [a38]; rfl
      · show _ = some (ad 41); rw [a41]; rfl
      · show _ = some (ad 44); rw [a44]; rfl
    | 23, _ => show va_at G.1 cls (ad 23, .inr (1, [.ref (ad 24), .ref (ad 25), .int 0, .int 0, .int 0])) H; rw [a23, a24, a25]; exact hP 23 _ rfl
    | 24, _ => show va_at G.1 cls (ad 24, .inl (G.2.1, 216, .inl fO)) H; rw [a24]; exact hP 24 _ rfl
    | 25, _ => show va_at G.1 cls (ad 25, .inl (G.2.1, 8, .inl (fun _ => 0))) H; rw [a25]; exact hP 25 _ rfl
    | 26, _ => show va_at G.1 cls (ad 26, .inr (1, [.ref (ad 27), .ref (ad 28), .int 0, .int 0, .int 0])) H; rw [a26, a27, a28]; exact hP 26 _ rfl
    | 27, _ => show va_at G.1 cls (ad 27, .inl (G.2.1, 216, .inl fO)) H; rw [a27]; exact hP 27 _ rfl
    | 28, _ => show va_at G.1 cls (ad 28, .inl (G.2.1, 8, .inl (fun _ => 0))) H; rw [a28]; exact hP 28 _ rfl
    | 29, _ => show va_at G.1 cls (ad 29, .inr (1, [.ref (ad 30), .ref (ad 31), .int 0, .int 0, .int 0])) H; rw [a29, a30, a31]; exact hP 29 _ rfl
    | 30, _ => show va_at G.1 cls (ad 30, .inl (G.2.1, 216, .inl fO)) H; rw [a30]; exact hP 30 _ rfl
    | 31, _ => show va_at G.1 cls (ad 31, .inl (G.2.1, 8, .inl (fun _ => 0))) H; rw [a31]; exact hP 31 _ rfl
    | 32, _ => show va_at G.1 cls (ad 32, .inr (1, [.ref (ad 33), .ref (ad 34), .int 0, .int 0, .int 0])) H; rw [a32, a33, a34]; exact hP 32 _ rfl
    | 33, _ => show va_at G.1 cls (ad 33, .inl (G.2.1, 216, .inl fO)) H; rw [a33]; exact hP 33 _ rfl
    | 34, _ => show va_at G.1 cls (ad 34, .inl (G.2.1, 8, .inl (fun _ => 0))) H; rw [a34]; exact hP 34 _ rfl
    | 35, _ => show va_at G.1 cls (ad 35, .inr (1, [.ref (ad 36), .ref (ad 37), .int 0, .int 0, .int 0])) H; rw [a35, a36, a37]; exact hP 35 _ rfl
    | 36, _ => show va_at G.1 cls (ad 36, .inl (G.2.1, 216, .inl fO)) H; rw [a36]; exact hP 36 _ rfl
    | 37, _ => show va_at G.1 cls (ad 37, .inl (G.2.1, 8, .inl (fun _ => 0))) H; rw [a37]; exact hP 37 _ rfl
    | 38, _ => show va_at G.1 cls (ad 38, .inr (1, [.ref (ad 39), .ref (ad 40), .int 0, .int 0, .int 0])) H; rw [a38, a39, a40]; exact hP 38 _ rfl
    | 39, _ => show va_at G.1 cls (ad 39, .inl (G.2.1, 216, .inl fO)) H; rw [a39]; exact hP 39 _ rfl
    | 40, _ => show va_at G.1 cls (ad 40, .inl (G.2.1, 8, .inl (fun _ => 0))) H; rw [a40]; exact hP 40 _ rfl
    | 41, _ => show va_at G.1 cls (ad 41, .inr (1, [.ref (ad 42), .ref (ad 43), .int 0, .int 0, .int 0])) H; rw [a41, a42, a43]; exact hP 41 _ rfl
    | 42, _ => show va_at G.1 cls (ad 42, .inl (G.2.1, 216, .inl fO)) H; rw [a42]; exact hP 42 _ rfl
    | 43, _ => show va_at G.1 cls (ad 43, .inl (G.2.1, 8, .inl (fun _ => 0))) H; rw [a43]; exact hP 43 _ rfl
    | 44, _ => show va_at G.1 cls (ad 44, .inr (1, [.ref (ad 45), .ref (ad 46), .int 0, .int 0, .int 0])) H; rw [a44, a45, a46]; exact hP 44 _ rfl
    | 45, _ => show va_at G.1 cls (ad 45, .inl (G.2.1, 216, .inl fO)) H; rw [a45]; exact hP 45 _ rfl
    | 46, _ => show va_at G.1 cls (ad 46, .inl (G.2.1, 8, .inl (fun _ => 0))) H; rw [a46]; exact hP 46 _ rfl
    | 47, _ => show va_at G.1 cls (ad 47, .inr (6, [.int 0, .int 0, .ref (ad 48), .ref (ad 49), .int 0, .int 0, .int 0])) H; rw [a47, a48, a49]; exact hP 47 _ rfl
    | 48, _ => show va_at G.1 cls (ad 48, .inl (G.2.1, 80, .inl (fun _ => 0))) H; rw [a48]; exact hP 48 _ rfl
    | 49, _ => show va_at G.1 cls (ad 49, .inr (0, [.ref (ad 50)])) H; rw [a49, a50]; exact hP 49 _ rfl
    | 50, _ => show va_at G.1 cls (ad 50, .inl (G.2.1, 6, .inl (fun _ => 0))) H; rw [a50]; exact hP 50 _ rfl
    | 51, _ => show va_at G.1 cls (ad 51, .inr (0, [.ref (ad 52)])) H; rw [a51, a52]; exact hP 51 _ rfl
    | 52, _ => show va_at G.1 cls (ad 52, .inl (G.2.1, 6, .inl (fun _ => 0))) H; rw [a52]; exact hP 52 _ rfl
    | 53, _ => show va_at G.1 cls (ad 53, .inr (1, [.ref (ad 54), .ref (ad 55), .int 0, .int 0, .int 0])) H; rw [a53, a54, a55]; exact hP 53 _ rfl
    | 54, _ => show va_at G.1 cls (ad 54, .inl (G.2.1, 216, .inl fO)) H; rw [a54]; exact hP 54 _ rfl
    | 55, _ => show va_at G.1 cls (ad 55, .inl (G.2.1, 8, .inl (fun _ => 0))) H; rw [a55]; exact hP 55 _ rfl
    | 56, _ => show va_at G.1 cls (ad 56, .inr (5, [.ref (ad 57), .ref (ad 58), .ref (ad 59), .ref (ad 60), .int 0, .int 0])) H; rw [a56, a57, a58, a59, a60]; exact hP 56 _ rfl
    | 57, _ => show va_at G.1 cls (ad 57, .inl (G.2.1, 64, .inl (fun _ => 0))) H; rw [a57]; exact hP 57 _ rfl
    | 58, _ => show va_at G.1 cls (ad 58, .inl (G.2.1, 48, .inl (fun _ => 0))) H; rw [a58]; exact hP 58 _ rfl
    | 59, _ => show va_at G.1 cls (ad 59, .inl (G.2.1, 8, .inl (fun _ => 0))) H; rw [a59]; exact hP 59 _ rfl
    | 60, _ => show va_at G.1 cls (ad 60, .inl (G.2.1, 8, .inl (fun _ => 0))) H; rw [a60]; exact hP 60 _ rfl
    | k + 61, hk => exact absurd hk (by omega)
  have ea : ∀ (k : Nat) (q : Nat × va_E), (cwL G ad)[k]? = some q → k < 61 ∧ q = (ad k, rd (mkX G ad (fun _ => True)) k (M0 k)) := by
    intro k q hq
    have hk : k < 61 := by have := (List.getElem?_eq_some_iff.mp hq).1; rw [cwL_len] at this; exact this
    exact ⟨hk, (Option.some.inj ((cwL_at G ad hk).symm.trans hq)).symm⟩
  have eb : ∀ k, k < 61 → ∃ e, (([(h0, .inr (7, [.ref b1, .ref b4, .ref b9, .ref b14, .ref b21, .ref b47, .ref b51, .ref b53, .ref b56, .int 0, .int 0, .int 0])), (b1, .inr (1, [.ref b2, .ref b3, .int 0, .int 0, .int 0])), (b2, .inl (G.2.1, 216, .inl fO)), (b3, .inl (G.2.1, 8, .inl (fun _ => 0))), (b4, .inr (3, [.ref b5, .ref b6, .ref b7, .ref b8, .int 0])), (b5, .inl (G.2.1, 8, .inl (fun _ => 0))), (b6, .inl (G.2.1, 8, .inl (fun _ => 0))), (b7, .inl (G.2.1, 24, .inl (fun _ => 0))), (b8, .inl (G.2.1, 24, .inl (fun _ => 0))), (b9, .inr (5, [.ref b10, .ref b11, .ref b12, .ref b13, .int 0, .int 0])), (b10, .inl (G.2.1, 64, .inl (fun _ => 0))), (b11, .inl (G.2.1, 48, .inl (fun _ => 0))), (b12, .inl (G.2.1, 8, .inl (fun _ => 0))), (b13, .inl (G.2.1, 8, .inl (fun _ => 0))), (b14, .inr (4, [.ref b15, .ref b16, .ref b17, .ref b18, .int 0, .ref b9, .ref b19, .ref b20, .int (-1 : Int32)])), (b15, .inl (G.2.1, 256, .inl (fun _ => 0))), (b16, .inl (G.2.1, 256, .inl (fun _ => 0))), (b17, .inl (G.2.1, 8, .inl (fun _ => 0))), (b18, .inl (G.2.1, 8, .inl (fun _ => 0))), (b19, .inl (G.2.1, 256, .inl (fun _ => 0))), (b20, .inl (G.2.2.1, 256, .inl (fun _ => 0))), (b21, .inr (2, [.int 0, .ref b22, .int 0])), (b22, .inl (G.2.2.2, 8, .inr (.inr (.inr (.inr (va_up (va_up (va_up (va_up (va_up (va_up (va_up (va_up (fun _ => none) 0 (some b23)) 1 (some b26)) 2 (some b29)) 3 (some b32)) 4 (some b35)) 5 (some b38)) 6 (some b41)) 7 (some b44))))))), (b23, .inr (1, [.ref b24, .ref b25, .int 0, .int 0, .int 0])), (b24, .inl (G.2.1, 216, .inl fO)), (b25, .inl (G.2.1, 8, .inl (fun _ => 0))), (b26, .inr (1, [.ref b27, .ref b28, .int 0, .int 0, .int 0])), (b27, .inl (G.2.1, 216, .inl fO)), (b28, .inl (G.2.1, 8, .inl (fun _ => 0))), (b29, .inr (1, [.ref b30, .ref b31, .int 0, .int 0, .int 0]))] ++ ([(b30, .inl (G.2.1, 216, .inl fO)), (b31, .inl (G.2.1, 8, .inl (fun _ => 0))), (b32, .inr (1, [.ref b33, .ref b34, .int 0, .int 0, .int 0])), (b33, .inl (G.2.1, 216, .inl fO)), (b34, .inl (G.2.1, 8, .inl (fun _ => 0))), (b35, .inr (1, [.ref b36, .ref b37, .int 0, .int 0, .int 0])), (b36, .inl (G.2.1, 216, .inl fO)), (b37, .inl (G.2.1, 8, .inl (fun _ => 0))), (b38, .inr (1, [.ref b39, .ref b40, .int 0, .int 0, .int 0])), (b39, .inl (G.2.1, 216, .inl fO)), (b40, .inl (G.2.1, 8, .inl (fun _ => 0))), (b41, .inr (1, [.ref b42, .ref b43, .int 0, .int 0, .int 0])), (b42, .inl (G.2.1, 216, .inl fO)), (b43, .inl (G.2.1, 8, .inl (fun _ => 0))), (b44, .inr (1, [.ref b45, .ref b46, .int 0, .int 0, .int 0])), (b45, .inl (G.2.1, 216, .inl fO)), (b46, .inl (G.2.1, 8, .inl (fun _ => 0))), (b47, .inr (6, [.int 0, .int 0, .ref b48, .ref b49, .int 0, .int 0, .int 0])), (b48, .inl (G.2.1, 80, .inl (fun _ => 0))), (b49, .inr (0, [.ref b50])), (b50, .inl (G.2.1, 6, .inl (fun _ => 0))), (b51, .inr (0, [.ref b52])), (b52, .inl (G.2.1, 6, .inl (fun _ => 0))), (b53, .inr (1, [.ref b54, .ref b55, .int 0, .int 0, .int 0])), (b54, .inl (G.2.1, 216, .inl fO)), (b55, .inl (G.2.1, 8, .inl (fun _ => 0))), (b56, .inr (5, [.ref b57, .ref b58, .ref b59, .ref b60, .int 0, .int 0])), (b57, .inl (G.2.1, 64, .inl (fun _ => 0))), (b58, .inl (G.2.1, 48, .inl (fun _ => 0))), (b59, .inl (G.2.1, 8, .inl (fun _ => 0)))] ++ [(b60, .inl (G.2.1, 8, .inl (fun _ => 0)))])) : va_W)[k]? = some (ad k, e) := by
    intro k hk
    match k, hk with
    | 0, _ => rw [a0]; exact ⟨_, rfl⟩
    | 1, _ => rw [a1]; exact ⟨_, rfl⟩
    | 2, _ => rw [a2]; exact ⟨_, rfl⟩
    | 3, _ => rw [a3]; exact ⟨_, rfl⟩
    | 4, _ => rw [a4]; exact ⟨_, rfl⟩
    | 5, _ => rw [a5]; exact ⟨_, rfl⟩
    | 6, _ => rw [a6]; exact ⟨_, rfl⟩
    | 7, _ => rw [a7]; exact ⟨_, rfl⟩
    | 8, _ => rw [a8]; exact ⟨_, rfl⟩
    | 9, _ => rw [a9]; exact ⟨_, rfl⟩
    | 10, _ => rw [a10]; exact ⟨_, rfl⟩
    | 11, _ => rw [a11]; exact ⟨_, rfl⟩
    | 12, _ => rw [a12]; exact ⟨_, rfl⟩
    | 13, _ => rw [a13]; exact ⟨_, rfl⟩
    | 14, _ => rw [a14]; exact ⟨_, rfl⟩
    | 15, _ => rw [a15]; exact ⟨_, rfl⟩
    | 16, _ => rw [a16]; exact ⟨_, rfl⟩
    | 17, _ => rw [a17]; exact ⟨_, rfl⟩
    | 18, _ => rw [a18]; exact ⟨_, rfl⟩
    | 19, _ => rw [a19]; exact ⟨_, rfl⟩
    | 20, _ => rw [a20]; exact ⟨_, rfl⟩
    | 21, _ => rw [a21]; exact ⟨_, rfl⟩
    | 22, _ => rw [a22]; exact ⟨_, rfl⟩
    | 23, _ => rw [a23]; exact ⟨_, rfl⟩
    | 24, _ => rw [a24]; exact ⟨_, rfl⟩
    | 25, _ => rw [a25]; exact ⟨_, rfl⟩
    | 26, _ => rw [a26]; exact ⟨_, rfl⟩
    | 27, _ => rw [a27]; exact ⟨_, rfl⟩
    | 28, _ => rw [a28]; exact ⟨_, rfl⟩
    | 29, _ => rw [a29]; exact ⟨_, rfl⟩
    | 30, _ => rw [a30]; exact ⟨_, rfl⟩
    | 31, _ => rw [a31]; exact ⟨_, rfl⟩
    | 32, _ => rw [a32]; exact ⟨_, rfl⟩
    | 33, _ => rw [a33]; exact ⟨_, rfl⟩
    | 34, _ => rw [a34]; exact ⟨_, rfl⟩
    | 35, _ => rw [a35]; exact ⟨_, rfl⟩
    | 36, _ => rw [a36]; exact ⟨_, rfl⟩
    | 37, _ => rw [a37]; exact ⟨_, rfl⟩
    | 38, _ => rw [a38]; exact ⟨_, rfl⟩
    | 39, _ => rw [a39]; exact ⟨_, rfl⟩
    | 40, _ => rw [a40]; exact ⟨_, rfl⟩
    | 41, _ => rw [a41]; exact ⟨_, rfl⟩
    | 42, _ => rw [a42]; exact ⟨_, rfl⟩
    | 43, _ => rw [a43]; exact ⟨_, rfl⟩
    | 44, _ => rw [a44]; exact ⟨_, rfl⟩
    | 45, _ => rw [a45]; exact ⟨_, rfl⟩
    | 46, _ => rw [a46]; exact ⟨_, rfl⟩
    | 47, _ => rw [a47]; exact ⟨_, rfl⟩
    | 48, _ => rw [a48]; exact ⟨_, rfl⟩
    | 49, _ => rw [a49]; exact ⟨_, rfl⟩
    | 50, _ => rw [a50]; exact ⟨_, rfl⟩
    | 51, _ => rw [a51]; exact ⟨_, rfl⟩
    | 52, _ => rw [a52]; exact ⟨_, rfl⟩
    | 53, _ => rw [a53]; exact ⟨_, rfl⟩
    | 54, _ => rw [a54]; exact ⟨_, rfl⟩
    | 55, _ => rw [a55]; exact ⟨_, rfl⟩
    | 56, _ => rw [a56]; exact ⟨_, rfl⟩
    | 57, _ => rw [a57]; exact ⟨_, rfl⟩
    | 58, _ => rw [a58]; exact ⟨_, rfl⟩
    | 59, _ => rw [a59]; exact ⟨_, rfl⟩
    | 60, _ => rw [a60]; exact ⟨_, rfl⟩
    | k + 61, hk => exact absurd hk (by omega)
  refine ⟨ad, a0, fun k q hq => ?_, fun i j x z hx hz hxz => ?_, fun k q hq => ?_⟩
  · obtain ⟨hk, rfl⟩ := ea k q hq; exact at0 k hk
  · obtain ⟨hi, rfl⟩ := ea i x hx; obtain ⟨hj, rfl⟩ := ea j z hz; obtain ⟨e1, h1⟩ := eb i hi; obtain ⟨e2, h2⟩ := eb j hj; exact hD.1 i j _ _ h1 h2 hxz
  · obtain ⟨hk, rfl⟩ := ea k q hq; obtain ⟨e1, h1⟩ := eb k hk; exact hD.2 k (ad k, e1) h1
