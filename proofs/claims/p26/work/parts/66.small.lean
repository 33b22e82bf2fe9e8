/-! the law's two small methods -/
section SM
variable {scr : Option (Nat × (Nat → Int32))} {Lb e : Nat} {xs : Nat → Int32} {v : Int32} {M : Im} {h : Hm} {D : Dm} {A : Ab}
theorem of_le_n {v : Int32} {m : Nat} (hm : m ≤ 260) (h0 : 0 ≤ v) (h1 : ¬ Int32.ofNat m ≤ v) : vp_in v m := by
  obtain ⟨j, hj, rfl⟩ := nI_of (Int32.not_lt.mpr h0)
  have h2 : nI j < nI m := Int32.not_le.mp h1
  have h3 := (nI_ltI hj (show m < 2 ^ 31 by omega)).mp h2
  exact vp_in_nI h3 (by omega)
theorem CN_cell (hLb : Lb ≤ 260) (h0 : 0 ≤ v) (hI : IX M h A) : CIS (some (Lb, xs)) (e + 8) nL_cell [.retAddr 0, .int v] M h D (fun x M1 h1 _ => x = cellV Lb xs v ∧ IX M1 h1 A) := by
  have hk : EA (some (Lb, xs)) (e + 7) nL_cell 0 [(0, .retAddr 0), (1, .int v)] [] A (fun x A1 => x = cellV Lb xs v ∧ A1 = A) := by
    refine R_L_cell_0 (c := 0) hLb ⟨fun c1 => ⟨?_, rfl⟩, fun c1 => ⟨of_le_n hLb h0 c1, ?_, rfl⟩⟩
    · unfold cellV; rw [if_pos c1]
    · unfold cellV; rw [if_neg c1]
  refine cis_w (cis_of (d := e + 7) rfl rfl (hk M h D hI)) (fun x M1 h1 D1 q => ?_)
  obtain ⟨A1, ⟨q1, q2⟩, i⟩ := q
  subst q2
  exact ⟨q1, i⟩
theorem bits_loop : ∀ (m k : Nat) (A : Ab), k + m = 16 → EA scr (e + 7) nL_bits 4 [(0, .int v), (1, .int (fsum (fun k => (v >>> (nI k &&& 31)) &&& 1) k)), (2, .int (nI k))] [] A (fun x A1 => x = bitsV v ∧ A1 = A)
  | 0, k, A, hk => by
    have : k = 16 := by omega
    subst this
    exact R_L_bits_4 (c := 0) ⟨fun _ => ⟨rfl, rfl⟩, fun c1 => absurd (show (16 : Int32) ≤ nI 16 by decide) c1⟩
  | m + 1, k, A, hk => by
    refine R_L_bits_4 (c := 0) ⟨fun c1 => ?_, fun _ => ?_⟩
    · exact absurd c1 (Int32.not_le.mpr ((nI_ltI (b := 16) (by omega) (by decide)).mpr (by omega)))
    · have := bits_loop m (k + 1) A (by omega)
      rw [show nI k + 1 = nI (k + 1) from lit k 1]
      exact this
theorem CN_bits (hI : IX M h A) : CIS scr (e + 8) nL_bits [.int v] M h D (fun x M1 h1 _ => x = bitsV v ∧ IX M1 h1 A) := by
  have hk : EA scr (e + 7) nL_bits 0 [(0, .int v)] [] A (fun x A1 => x = bitsV v ∧ A1 = A) := R_L_bits_0 (c := 0) (bits_loop 16 0 A rfl)
  refine cis_w (cis_of (d := e + 7) rfl rfl (hk M h D hI)) (fun x M1 h1 D1 q => ?_)
  obtain ⟨A1, ⟨q1, q2⟩, i⟩ := q
  subst q2
  exact ⟨q1, i⟩
end SM
