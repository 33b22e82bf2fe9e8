/-! the law's isNeeded: it answers true, and changes nothing -/
section IN
variable {scr : Option (Nat × (Nat → Int32))} {e c n d : Nat} {A : Ab} {Q : Int32 → Ab → Prop}
theorem one_ne0 : ¬ (1 : Int32) = 0 := by decide
theorem b2i_eq0 {b : Bool} (h : b2i b = 0) : b = false := by cases b <;> first | rfl | exact absurd h (by decide)
theorem b2i_ne0 {b : Bool} (h : ¬ b2i b = 0) : b = true := by cases b <;> first | rfl | exact absurd rfl h
theorem b2i_eq1 {b : Bool} (h : b2i b = 1) : b = true := by cases b <;> first | rfl | exact absurd h (by decide)
theorem b2i_ne1 {b : Bool} (h : ¬ b2i b = 1) : b = false := by cases b <;> first | rfl | exact absurd rfl h
/-- the locals of the method, from the loop on -/
noncomputable abbrev LN (n : Nat) (A : Ab) (d : Nat) (x : Int32) (i : Int32) : Lc := [(0, .ref 0), (1, .int (nI d)), (2, .int (nI (tot n A.1.1 d))), (3, .int (bits (cB n A.1.1 d) 16)), (4, .int (bits (fun t => cB n A.1.1 d (16 + t)) 12)), (5, .int x), (6, .int i)]
noncomputable abbrev LN0 (n : Nat) (A : Ab) (d : Nat) : Lc := [(0, .ref 0), (1, .int (nI d)), (2, .int (nI (tot n A.1.1 d))), (3, .int (bits (cB n A.1.1 d) 16)), (4, .int (bits (fun t => cB n A.1.1 d (16 + t)) 12))]
theorem bitO (hi : d < 16) {p : Nat → Bool} : (bits p 16 >>> (nI d &&& 31)) &&& 1 = b2i (p d) := by
  rw [bit1_set (bs_bits p (by decide)) (by omega), decide_eq_true hi, Bool.true_and]
theorem bitT (hi : d < 12) {p : Nat → Bool} : (bits p 12 >>> (nI d &&& 31)) &&& 1 = b2i (p d) := by
  rw [bit1_set (bs_bits p (by decide)) (by omega), decide_eq_true hi, Bool.true_and]
theorem F_407 {s : Int32} {x : Int32} {i : Int32} (hc : c ≤ 400) (hw : wfA c A) (h : wf n A.1.1) (hd : d < n) (ho : fd A.1.1 d 6 = 1) (hs : s = b2i (decide (tot n A.1.1 d = 0))) (hQ : Q 1 A) : EA scr (e + 8) nL_isNeeded 407 (LN n A d x i) [.int s] A Q := by
  refine R_L_isNeeded_407 hc hw ?_
  have h0 := open_0 h hd ho
  rw [drw8 h hd, hs]
  by_cases z : rchd A.1.1 d = true
  · rw [z, decide_eq_true (h0.mpr z)]
    exact ⟨fun y => absurd rfl y, fun _ => ⟨fun y => absurd rfl y, fun _ => hQ⟩⟩
  · have z' : rchd A.1.1 d = false := by simpa using z
    rw [z', decide_eq_false (fun y => z (h0.mp y))]
    exact ⟨fun _ => ⟨fun y => absurd rfl y, fun _ => hQ⟩, fun y => absurd (by decide) y⟩
theorem F_382 {i : Int32} (hc : c ≤ 400) (hw : wfA c A) (h : wf n A.1.1) (hd : d < n) (hQ : Q 1 A) : EA scr (e + 8) nL_isNeeded 382 (LN n A d 1 i) [] A Q := by
  have hn := h.n16
  refine R_L_isNeeded_382 hc hw ?_
  rw [drw6 h hd, bitO (by omega)]
  refine ⟨fun y => absurd y one_ne0, fun _ => ⟨fun y => ?_, fun y => ?_⟩⟩
  · have h0 : fd A.1.1 d 6 = 0 := (h.zo.1 d (by omega)).1.resolve_right y
    rw [closed_1 h h0]
    exact ⟨fun z => absurd rfl z, fun _ => hQ⟩
  · have ho : fd A.1.1 d 6 = 1 := Classical.not_not.mp y
    refine ⟨fun z => F_407 hc hw h hd ho ?_ hQ, fun z => F_407 hc hw h hd ho ?_ hQ⟩
    · rw [decide_eq_false (fun w => z (by rw [w]; rfl))]; rfl
    · have z' := Classical.not_not.mp z
      have : tot n A.1.1 d = 0 := nI_inj' (by have := tot_le (n := n) (e := A.1.1) (d := d); omega) (by decide) z'
      rw [decide_eq_true this]; rfl
theorem F_320 {i : Nat} {x v7 s : Int32} (hc : c ≤ 400) (hw : wfA c A) (h : wf n A.1.1) (hd : d < n) (hp : posB n A.1.1 d = true) (hi : i < n) (hs : s = 1) (k : EA scr (e + 8) nL_isNeeded 160 (LN n A d 1 (nI (i + 1))) [] A Q) : EA scr (e + 8) nL_isNeeded 320 (LN n A d x (nI i) ++ [(7, .int v7), (8, .int (fd A.1.1 i 2))]) [.int s] A Q := by
  have hn := h.n16
  refine R_L_isNeeded_320 hc hw ?_
  rw [drw1 h hi, bitO (by omega), nI_1]
  refine ⟨fun y => absurd (hs.symm.trans y) one_ne0, fun _ => ⟨fun _ => k, fun c1 => ⟨fun _ => k, fun c2 => ?_⟩⟩⟩
  have hcb := b2i_ne0 c1
  have h1 : fd A.1.1 i 1 = 2 := Classical.not_not.mp c2
  have hb := cb_by h hd hp hcb hi h1
  have e2 : fd A.1.1 i 2 = nI (byN A.1.1 i) := by
    obtain ⟨j, hj, ej⟩ := (h.by' i hi).2 h1
    unfold byN; rw [ej, nI_clamp (by omega)]
  rw [e2, drw6 h hb, bitO (by omega)]
  refine ⟨fun _ => k, fun c3 => ⟨fun c4 => ?_, fun _ => k⟩⟩
  rw [cb_lever h hd hcb hi h1 hb c3] at c4
  exact absurd rfl c4
theorem F_257 {i : Nat} {x v7 s : Int32} (hc : c ≤ 400) (hw : wfA c A) (h : wf n A.1.1) (hd : d < n) (hp : posB n A.1.1 d = true) (hi : i < n) (hs : s = 1) (k : EA scr (e + 8) nL_isNeeded 160 (LN n A d 1 (nI (i + 1))) [] A Q) : EA scr (e + 8) nL_isNeeded 257 (LN n A d x (nI i) ++ [(7, .int v7)]) [.int s] A Q := by
  have hn := h.n16
  subst hs
  have k1 : EA scr (e + 8) nL_isNeeded 320 (LN n A d 1 (nI i) ++ [(7, .int v7), (8, .int (fd A.1.1 i 2))]) [.int 1] A Q := F_320 hc hw h hd hp hi rfl k
  refine R_L_isNeeded_257 hc hw ?_
  rw [drw1 h hi, drw2 h hi, bitO (by omega)]
  refine ⟨fun y => absurd y one_ne0, fun _ => ⟨fun _ => k1, fun c1 => ⟨fun _ => k1, fun c2 => ?_⟩⟩⟩
  have hcb := b2i_ne0 c1
  have h1 : fd A.1.1 i 1 = 1 := Classical.not_not.mp c2
  have hb := by10 h hi h1
  have e2 : fd A.1.1 i 2 = nI (byN A.1.1 i) := by
    obtain ⟨j, hj, ej⟩ := (h.by' i hi).1 h1
    unfold byN; rw [ej, nI_clamp (by omega)]
  rw [e2] at k1 ⊢
  rw [thg2 (by omega), bitT (by omega)]
  refine ⟨fun _ => k1, fun c3 => ⟨fun c4 => ?_, fun _ => k1⟩⟩
  rw [cb_key h hd hcb hi h1 c3] at c4
  exact absurd rfl c4
theorem F_200 {i : Nat} {x s : Int32} (hc : c ≤ 400) (hw : wfA c A) (h : wf n A.1.1) (hd : d < n) (hp : posB n A.1.1 d = true) (hi : i < n) (hs : s = 1) (k : EA scr (e + 8) nL_isNeeded 160 (LN n A d 1 (nI (i + 1))) [] A Q) : EA scr (e + 8) nL_isNeeded 200 (LN n A d x (nI i)) [.int s] A Q := by
  have hn := h.n16
  subst hs
  have k1 : EA scr (e + 8) nL_isNeeded 257 (LN n A d 1 (nI i) ++ [(7, .int (fd A.1.1 i 0))]) [.int 1] A Q := F_257 hc hw h hd hp hi rfl k
  refine R_L_isNeeded_200 hc hw ?_
  rw [drw0 h hi, bitO (by omega)]
  refine ⟨fun y => absurd y one_ne0, fun _ => ⟨fun _ => k1, fun c1 => ⟨fun _ => k1, fun c2 => ?_⟩⟩⟩
  have hcb := b2i_ne0 c1
  rcases h.out i hi with z | ⟨j, hj, ej⟩
  · rw [z] at c2; exact absurd (by decide) c2
  · rw [ej] at k1 ⊢
    rw [drw6 h (by omega), bitO (by omega)]
    refine ⟨fun _ => k1, fun c3 => ⟨fun c4 => ?_, fun _ => k1⟩⟩
    rw [cb_outer h hd hcb hi (by omega) ej c3] at c4
    exact absurd rfl c4
theorem F_160 (hc : c ≤ 400) (hw : wfA c A) (h : wf n A.1.1) (hd : d < n) (hp : posB n A.1.1 d = true) (hQ : Q 1 A) : ∀ (m i : Nat), i + m = n → EA scr (e + 8) nL_isNeeded 160 (LN n A d 1 (nI i)) [] A Q
  | 0, i, hi => by
    refine R_L_isNeeded_160 hc hw ?_
    rw [h.nOf, cnt0, h.a0]
    refine ⟨fun _ => F_382 hc hw h hd hQ, fun y => absurd ((nI_leI (by have := h.n16; omega) (by have := h.n16; omega)).mpr (by omega)) y⟩
  | m + 1, i, hi => by
    have hn := h.n16
    have k1 : EA scr (e + 8) nL_isNeeded 200 (LN n A d 1 (nI i)) [.int 1] A Q := F_200 hc hw h hd hp (by omega) rfl (F_160 hc hw h hd hp hQ m (i + 1) (by omega))
    refine R_L_isNeeded_160 hc hw ?_
    rw [h.nOf, cnt0, h.a0, drw6 h (by omega), bitO (by omega)]
    refine ⟨fun y => absurd ((nI_leI (by omega) (by omega)).mp y) (by omega), fun _ => ⟨fun y => absurd y one_ne0, fun _ => ⟨fun _ => k1, fun c1 => ⟨fun c2 => ?_, fun _ => k1⟩⟩⟩⟩
    exact absurd (cb_o h hd (b2i_ne0 c1) (by omega)).2 c2
theorem F_109 (hc : c ≤ 400) (hw : wfA c A) (h : wf n A.1.1) (hd : d < n) (hp : posB n A.1.1 d = true) (hQ : Q 1 A) : EA scr (e + 8) nL_isNeeded 109 (LN0 n A d) [.int 1] A Q := by
  have hn := h.n16
  have k1 : EA scr (e + 8) nL_isNeeded 160 (LN n A d 1 0) [] A Q := F_160 hc hw h hd hp hQ n 0 (by omega)
  refine R_L_isNeeded_109 hc hw ?_
  rw [h.nOf, cnt3, nd_3 h hd hp, show (10 : Int32) = nI 10 from rfl, bitT (by decide), bitT (by decide)]
  refine ⟨fun y => absurd y one_ne0, fun _ => ⟨fun _ => k1, fun c1 => ⟨fun _ => k1, fun c2 => ⟨fun c3 => ?_, fun _ => k1⟩⟩⟩⟩
  have h1 : cL n A.1.1 d ≠ 0 := fun z => c1 (by rw [z]; rfl)
  have h2 : ¬ ft A.1.1 10 2 = 1 := fun z => c2 (by rw [z]; rfl)
  have h3 : cB n A.1.1 d (16 + 10) = true := cl_knife h hd h1 h2
  rw [h3] at c3
  exact absurd rfl c3
theorem T_isNeeded (hc : c ≤ 400) (hw : wfA c A) (h : wf n A.1.1) (hg : A.1.1 1 = 1) (hd : d < n) : CA scr (e + 9) nL_isNeeded [.ref 0, .int (nI d)] A (fun x A1 => x = 1 ∧ A1 = A) := by
  have hn := h.n16
  refine ca_of rfl rfl (R_L_isNeeded_0 hc hw ?_)
  rw [h.nOf]
  cases hp : posB n A.1.1 d
  · rw [nd_no h hd hp 0 (by decide), nd_no h hd hp 1 (by decide), hn_no h hg hd hp]
    exact ⟨fun y => absurd y (by decide), fun _ => ⟨fun y => absurd rfl y, fun _ => ⟨fun y => absurd rfl y, fun _ => ⟨fun y => absurd rfl y, fun _ => ⟨rfl, rfl⟩⟩⟩⟩⟩
  · rw [nd_0 h hd hp, nd_1 h hd hp, nd_2 h hd hp, nd_3 h hd hp, nd_4 h hd hp, bitsV_set (by decide) (bs_bits (cB n A.1.1 d) (m := 16) (by decide)), bitsV_set (by decide) (bs_bits (fun t => cB n A.1.1 d (16 + t)) (m := 12) (by decide)), cnt3]
    have t76 := tot_le (n := n) (e := A.1.1) (d := d)
    have hO : cO n A.1.1 d ≤ 76 := by unfold tot at t76; omega
    have hcs := cS_le h (d := d)
    refine ⟨fun _ => ⟨fun y => ?_, fun _ => ⟨fun y => ?_, fun _ => ⟨fun y => ?_, fun _ => F_109 hc hw h hd hp ⟨rfl, rfl⟩⟩⟩⟩, fun y => absurd (nI_pos' (by omega)) y⟩
    · refine absurd ?_ y
      rw [nI_add, nI_add]; rfl
    · refine absurd y (Int32.not_lt.mpr ?_)
      exact (nI_leI (by omega) (by show cO n A.1.1 d < 2 ^ 31; omega)).mpr hcs
    · refine absurd ?_ y
      have hb := bs_and (bs_bits (fun t => cB n A.1.1 d (16 + t)) (m := 12) (by decide)) (bs_bits (fun t => ft A.1.1 t 2 == 1) (m := 12) (by decide))
      refine bs_ext hb (bs_0 12) (fun t ht => ?_)
      cases hb : cB n A.1.1 d (16 + t)
      · rfl
      · rw [cb_t h hd hb ht]; rfl
end IN
