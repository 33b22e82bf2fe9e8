/-! the law's isAll: it answers true in a game, and changes nothing -/
section FS
variable {f g : Nat → Int32} {m n : Nat}
theorem fs_z : ∀ m, (∀ i, i < m → f i = 0) → fsum f m = 0
  | 0, _ => rfl
  | m + 1, h => by
    show fsum f m + f m = 0
    rw [fs_z m (fun i hi => h i (by omega)), h m (by omega)]; rfl
theorem fs_add : ∀ m, fsum (fun i => f i + g i) m = fsum f m + fsum g m
  | 0 => rfl
  | m + 1 => by
    show fsum (fun i => f i + g i) m + (f m + g m) = (fsum f m + f m) + (fsum g m + g m)
    rw [fs_add m, Int32.add_assoc, Int32.add_assoc, ← Int32.add_assoc (fsum g m), ← Int32.add_assoc (f m), Int32.add_comm (fsum g m)]
theorem fs_swap (F : Nat → Nat → Int32) (m : Nat) : ∀ n, fsum (fun k => fsum (fun t => F k t) m) n = fsum (fun t => fsum (fun k => F k t) n) m
  | 0 => (fs_z m (fun _ _ => rfl)).symm
  | n + 1 => by
    show fsum (fun k => fsum (fun t => F k t) m) n + fsum (fun t => F n t) m = fsum (fun t => fsum (fun k => F k t) n + F n t) m
    rw [fs_swap F m n, fs_add]
theorem fs_one (k0 : Nat) : ∀ n, fsum (fun k => if k = k0 then 1 else 0) n = if k0 < n then 1 else 0
  | 0 => by rw [if_neg (Nat.not_lt_zero _)]; rfl
  | n + 1 => by
    show fsum (fun k => if k = k0 then 1 else 0) n + (if n = k0 then 1 else 0) = _
    rw [fs_one k0 n]
    by_cases h : n = k0
    · rw [if_neg (by omega), if_pos h, if_pos (by omega)]; rfl
    · rw [if_neg h]
      by_cases h2 : k0 < n
      · rw [if_pos h2, if_pos (by omega)]; rfl
      · rw [if_neg h2, if_neg (by omega)]; rfl
end FS
section AL
variable {scr : Option (Nat × (Nat → Int32))} {e c n d i j : Nat} {a : V} {A : Ab} {Q : Int32 → Ab → Prop}
theorem rchd_0 (h : fd a i 0 = -5) : rchd a i = true := by unfold rchd; rw [h]; show rch a (15 + 1) (-5) = true; unfold rch; exact if_pos rfl
theorem rchd_s (h : wf n a) (hi : i < n) (hj : j < n) (ho : fd a i 0 = nI j) : b2i (rchd a i) = fd a j 6 * b2i (rchd a j) := by
  have hn := h.n16
  have h1 := rchd_up h.out hn hi
  have h2 := rchd_up h.out hn hj
  have hu : ∀ y, UP a i y ↔ (j = y ∨ UP a j y) := fun y => UP_un h.out hn hj hi ho
  rcases (h.zo.1 j (by omega)).1 with z | z
  · have : rchd a i = false := by
      rcases Bool.eq_false_or_eq_true (rchd a i) with y | y
      · have := h1.mp y j ((hu j).mpr (Or.inl rfl)); rw [z] at this; exact absurd this (by decide)
      · exact y
    rw [this, z, Int32.zero_mul]; rfl
  · have : rchd a i = rchd a j := by
      rw [Bool.eq_iff_iff, h1, h2]
      exact ⟨fun y w hw => y w ((hu w).mpr (Or.inr hw)), fun y w hw => by
        rcases (hu w).mp hw with rfl | q
        · exact z
        · exact y w q⟩
    rw [this, z, Int32.one_mul]
theorem outs_st (ho : outOk n a) (hn : n ≤ 16) : ∀ (m1 m2 : Nat) (x : Int32), (x = -5 ∨ ∃ j, j < n ∧ j < m1 ∧ j < m2 ∧ x = nI j) → outs a m1 x = outs a m2 x
  | 0, m2, x, hx => by
    have e : x = -5 := hx.resolve_right (fun ⟨j, _, h, _⟩ => absurd h (by omega))
    subst e
    cases m2 with
    | zero => rfl
    | succ m2 => unfold outs; rw [if_pos rfl]
  | m1 + 1, 0, x, hx => by
    have e : x = -5 := hx.resolve_right (fun ⟨j, _, _, h, _⟩ => absurd h (by omega))
    subst e
    unfold outs; rw [if_pos rfl]
  | m1 + 1, m2 + 1, x, hx => by
    rcases hx with rfl | ⟨j, hj, h1, h2, rfl⟩
    · unfold outs; rw [if_pos rfl, if_pos rfl]
    · unfold outs
      rw [if_neg (m5_ne j (by omega)), if_neg (m5_ne j (by omega)), kcl (by omega), outs_st ho hn m1 m2 _ ((ho j hj).imp id (fun ⟨i, hi, e⟩ => ⟨i, by omega, by omega, by omega, e⟩))]
theorem outs_0 : outs a 16 (-5) = 0 := by show outs a (15 + 1) (-5) = 0; unfold outs; rw [if_pos rfl]
theorem outs_s (h : wf n a) (hj : j < n) (hj2 : j < 15) : outs a 16 (nI j) = 1 + outs a 16 (fd a j 0) := by
  have hn := h.n16
  show (if nI j = -5 then 0 else 1 + outs a 15 (fd a (nI j).toNatClampNeg 0)) = _
  rw [if_neg (m5_ne j (by omega)), kcl (by omega), outs_st h.out hn 15 16 _ ((h.out j hj).imp id (fun ⟨i, hi, e⟩ => ⟨i, by omega, by omega, by omega, e⟩))]
/-- the things of all drawers, and the laid things one by one -/
def inD (a : V) (k : Nat) : Int32 := fsum (fun t => if ft a t 0 = nI k ∧ ft a t 2 = 0 then 1 else 0) 12
def isLaid (a : V) (t : Nat) : Int32 := if opThing a (nI t) 0 < 0 then 0 else 1
theorem laid_all (h : wf n a) : fsum (inD a) n = fsum (isLaid a) 12 := by
  have hn := h.n16
  show fsum (fun k => fsum (fun t => if ft a t 0 = nI k ∧ ft a t 2 = 0 then 1 else 0) 12) n = _
  rw [fs_swap (fun k t => if ft a t 0 = nI k ∧ ft a t 2 = 0 then 1 else 0)]
  refine fs_w (fun t ht => ?_)
  unfold isLaid
  rw [thg0 ht]
  rcases h.zo.2 t ht with z | z
  · rw [z, if_neg (by decide : ¬ (0 : Int32) = 1)]
    rcases h.td t ht with y | ⟨k0, b, q, hk0, y, -⟩
    · rw [y, if_pos (by decide)]
      exact fs_z n (fun k hk => if_neg (fun w => m5_ne k (by omega) w.1.symm))
    · rw [y, if_neg (nI_pos (by omega))]
      have e1 : fsum (fun k => if nI k0 = nI k ∧ (0 : Int32) = 0 then (1 : Int32) else 0) n = fsum (fun k => if k = k0 then 1 else 0) n := fs_w (fun k hk => by
        by_cases w : k = k0
        · rw [if_pos w, if_pos ⟨by rw [w], rfl⟩]
        · rw [if_neg w, if_neg (fun q => w (nI_inj' (by omega) (by omega) q.1).symm)])
      rw [e1, fs_one, if_pos hk0]
  · rw [z, if_pos rfl, if_pos (by decide)]
    exact fs_z n (fun k hk => if_neg (fun w => absurd w.2 (by decide)))
theorem hand_all (h : wf n a) : foru (fun t => opThing a (nI t) 2 <<< (nI t &&& 31)) 12 = bits (fun t => ft a t 2 == 1) 12 := by
  unfold bits
  refine foru_w (fun t ht => ?_)
  rw [thg2 ht]
  show ft a t 2 <<< (nI t &&& 31) = if (ft a t 2 == 1) = true then 1 <<< (nI t &&& 31) else 0
  rcases h.zo.2 t ht with z | z
  · rw [z, if_neg (by decide), Int32.zero_shiftLeft]
  · rw [z, if_pos (by decide)]
/-- the locals of the method -/
abbrev LA (a : V) (i : Nat) : Lc := [(0, .ref 0), (1, .int (fsum (fun k => fd a k 6) i)), (2, .int (fsum (fun k => fd a k 7) i)), (3, .int (fsum (inD a) i)), (4, .int 0), (5, .int 1), (6, .int (nI i))]
abbrev LB (n : Nat) (a : V) (t : Nat) : Lc := [(0, .ref 0), (1, .int (fsum (fun k => fd a k 6) n)), (2, .int (fsum (fun k => fd a k 7) n)), (3, .int (fsum (inD a) n - fsum (isLaid a) t)), (4, .int (foru (fun t => opThing a (nI t) 2 <<< (nI t &&& 31)) t)), (5, .int 1), (6, .int (nI t))]
theorem G_213 (hc : c ≤ 400) (hw : wfA c A) (h : wf n A.1.1) (hQ : Q 1 A) : ∀ (m t : Nat), t + m = 12 → EA scr (e + 8) nL_isAll 213 (LB n A.1.1 t) [] A Q
  | 0, t, ht => by
    obtain rfl : t = 12 := by omega
    refine R_L_isAll_213 hc hw ?_
    rw [h.nOf, cnt2, cnt3, cnt4, laid_all h, Int32.sub_self, hand_all h]
    exact ⟨fun _ => ⟨fun y => absurd y one_ne0, fun _ => ⟨fun y => absurd rfl y, fun _ => ⟨fun y => absurd rfl y, fun _ => ⟨fun y => absurd rfl y, fun _ => ⟨fun y => absurd rfl y, fun _ => hQ⟩⟩⟩⟩⟩, fun y => absurd (show (12 : Int32) ≤ nI 12 by decide) y⟩
  | m + 1, t, ht => by
    have k0 := G_213 hc hw h hQ m (t + 1) (by omega)
    have key : ∀ x, x = isLaid A.1.1 t → EA scr (e + 8) nL_isAll 236 (LB n A.1.1 t) [.int x, .int (fsum (inD A.1.1) n - fsum (isLaid A.1.1) t)] A Q := fun x hx => by
      refine R_L_isAll_236 hc hw ?_
      rw [hx, nI_1, Int32.sub_sub]
      exact k0
    refine R_L_isAll_213 hc hw ⟨fun y => absurd ((nI_leI (a := 12) (by decide) (by omega)).mp y) (by omega), fun _ => ⟨fun c1 => key 0 ?_, fun c1 => key 1 ?_⟩⟩
    · unfold isLaid; rw [if_pos c1]
    · unfold isLaid; rw [if_neg c1]
theorem G_140 {v7 s0 s1 : Int32} (hc : c ≤ 400) (hw : wfA c A) (h : wf n A.1.1) (hg : A.1.1 1 = 1) (hi : i < n) (hs : s1 = s0) (k : EA scr (e + 8) nL_isAll 15 (LA A.1.1 (i + 1)) [] A Q) : EA scr (e + 8) nL_isAll 140 [(0, .ref 0), (1, .int (fsum (fun k => fd A.1.1 k 6) (i + 1))), (2, .int (fsum (fun k => fd A.1.1 k 7) (i + 1))), (3, .int (fsum (inD A.1.1) (i + 1))), (4, .int 0), (5, .int 1), (6, .int (nI i)), (7, .int v7)] [.int s0, .int s1] A Q := by
  have hn := h.n16
  refine R_L_isAll_140 hc hw ?_
  obtain ⟨b, l, q1, q2, q3, q4⟩ := h.lift' hi
  rw [h.nOf, cnt8 hg, drw4 h hi, drw5 h hi, drw6 h hi, drw8 h hi, q3, q4, bit1_set (bs_bits (canO A.1.1) (by omega)) (by omega), decide_eq_true hi, Bool.true_and, nI_1]
  refine ⟨fun y => absurd hs y, fun _ => ⟨fun y => absurd ((nI_ltI (by omega) (by omega)).mp y) (by omega), fun _ => ⟨fun _ => k, fun c1 => ?_⟩⟩⟩
  obtain ⟨w1, w2, -⟩ := canO_t (b2i_ne0 c1)
  rw [w1, w2]
  exact ⟨fun y => absurd rfl y, fun _ => ⟨fun y => absurd rfl y, fun _ => k⟩⟩
theorem G_15 (hc : c ≤ 400) (hw : wfA c A) (h : wf n A.1.1) (hg : A.1.1 1 = 1) (hQ : Q 1 A) : ∀ (m i : Nat), i + m = n → EA scr (e + 8) nL_isAll 15 (LA A.1.1 i) [] A Q
  | 0, i, hi => by
    obtain rfl : i = n := by omega
    have k0 : EA scr (e + 8) nL_isAll 213 (LB i A.1.1 0) [] A Q := G_213 hc hw h hQ 12 0 rfl
    refine R_L_isAll_15 hc hw ?_
    rw [h.nOf, cnt0, h.a0]
    refine ⟨fun _ => ?_, fun y => absurd ((nI_leI (by have := h.n16; omega) (by have := h.n16; omega)).mpr (by omega)) y⟩
    have e0 : fsum (inD A.1.1) i - fsum (isLaid A.1.1) 0 = fsum (inD A.1.1) i := Int32.sub_zero _
    unfold LB at k0
    rw [e0] at k0
    exact k0
  | m + 1, i, hi => by
    have hn := h.n16
    have hin : i < n := by omega
    have k0 := G_15 hc hw h hg hQ m (i + 1) (by omega)
    refine R_L_isAll_15 hc hw ?_
    rw [h.nOf, cnt0, h.a0, drw0 h hin, drw6 h hin, drw7 h hin, drw8 h hin, drw9 h hin]
    have k1 : ∀ (v7 s0 s1 : Int32), s1 = s0 → EA scr (e + 8) nL_isAll 140 [(0, .ref 0), (1, .int (fsum (fun k => fd A.1.1 k 6) (i + 1))), (2, .int (fsum (fun k => fd A.1.1 k 7) (i + 1))), (3, .int (fsum (inD A.1.1) (i + 1))), (4, .int 0), (5, .int 1), (6, .int (nI i)), (7, .int v7)] [.int s0, .int s1] A Q := fun v7 s0 s1 hs => G_140 hc hw h hg hin hs k0
    have k2 : ∀ (s0 s1 : Int32), s1 = s0 → EA scr (e + 8) nL_isAll 108 [(0, .ref 0), (1, .int (fsum (fun k => fd A.1.1 k 6) (i + 1))), (2, .int (fsum (fun k => fd A.1.1 k 7) (i + 1))), (3, .int (fsum (inD A.1.1) (i + 1))), (4, .int 0), (5, .int 1), (6, .int (nI i)), (7, .int (fd A.1.1 i 0))] [.int s0, .int s1] A Q := fun s0 s1 hs => by
      refine R_L_isAll_108 hc hw ⟨fun y => absurd hs y, fun _ => ⟨fun c1 => ?_, fun c1 => ?_⟩⟩
      · obtain ⟨j, hj, ej⟩ := (h.out i hin).resolve_left c1
        refine k1 _ _ _ ?_
        rw [drw10 h hin, ej, drw10 h (by omega), outs_s h (by omega) (by omega), ← nI_add]; rfl
      · refine k1 _ _ _ ?_
        rw [drw10 h hin, Classical.not_not.mp c1, outs_0]; rfl
    refine ⟨fun y => absurd ((nI_leI (by omega) (by omega)).mp y) (by omega), fun _ => ⟨fun y => absurd y one_ne0, fun _ => ⟨fun c1 => ?_, fun c1 => ?_⟩⟩⟩
    · obtain ⟨j, hj, ej⟩ := (h.out i hin).resolve_left c1
      have hs := rchd_s h hin (by omega : j < n) ej
      rw [ej] at k2 ⊢
      rw [drw6 h (by omega), drw8 h (by omega)]
      exact k2 _ _ hs
    · exact k2 _ _ (by rw [rchd_0 (Classical.not_not.mp c1)]; rfl)
theorem T_isAll (hc : c ≤ 400) (hw : wfA c A) (h : wf n A.1.1) (hg : A.1.1 1 = 1) : CA scr (e + 9) nL_isAll [.ref 0] A (fun x A1 => x = 1 ∧ A1 = A) :=
  ca_of rfl rfl (R_L_isAll_0 hc hw (G_15 hc hw h hg ⟨rfl, rfl⟩ n 0 (by omega)))
end AL
