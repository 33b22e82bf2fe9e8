/-! the law's goes: a hint that is followed takes one step off -/
section GO
variable {scr : Option (Nat × (Nat → Int32))} {e0 c n d k t s0 : Nat} {a a' e g : V} {A A1 : Ab} {Q : Int32 → Ab → Prop}
/-! what no step of a game changes: which drawers can never be opened -/
theorem made_none (hs : SAME e g) (h6 : ∀ k, k < 16 → fd g k 6 = fd e k 6) (h5 : ∀ k, k < 16 → fd g k 5 = fd e k 5) (h2 : ∀ j, j < 12 → ft g j 2 = ft e j 2) : MADE n e g 1000 := by
  refine ⟨hs, fun k hk => ?_, fun j hj => ?_, fun k i hk hi => ?_⟩
  · unfold clo; rw [h6 k hk]; exact ⟨fun y => ⟨y, by omega⟩, fun y => y.1⟩
  · rw [h2 j hj]; exact ⟨fun y => ⟨y, by omega⟩, fun y => y.1⟩
  · have : lfN g k = lfN e k := by unfold lfN; rw [h5 k hk]
    rw [this]; exact ⟨fun y => ⟨y, by omega⟩, fun y => y.1⟩
theorem wf_pbk (h : wf n a) : wf n (pbk a) := wf_asl h 0 (Or.inl rfl)
theorem pbk_fd (hk : k < 16) {j : Nat} (hj : j < 8) : fd (pbk a) k j = if 5 ≤ j then 0 else fd a k j := by unfold pbk; rw [fd_H (by decide), asl_fd hk hj]
theorem pbk_ft (ht : t < 12) {j : Nat} (hj : j < 3) : ft (pbk a) t j = if j = 2 then 0 else ft a t j := by unfold pbk; rw [ft_H (by decide), asl_ft ht hj]
theorem pbk_made (hs : SAME e g) : MADE n (pbk e) (pbk g) 1000 := by
  refine made_none ⟨fun k j hk hj => ?_, fun t j ht hj => ?_⟩ (fun k hk => ?_) (fun k hk => ?_) (fun j hj => ?_)
  · rw [pbk_fd hk (by omega), pbk_fd hk (by omega), if_neg (by omega), if_neg (by omega)]; exact hs.1 k j hk hj
  · rw [pbk_ft ht (by omega), pbk_ft ht (by omega), if_neg (by omega), if_neg (by omega)]; exact hs.2 t j ht hj
  · rw [pbk_fd hk (by decide), pbk_fd hk (by decide)]; rfl
  · rw [pbk_fd hk (by decide), pbk_fd hk (by decide)]; rfl
  · rw [pbk_ft hj (by decide), pbk_ft hj (by decide)]; rfl
theorem SAME.sym (hs : SAME e g) : SAME g e := ⟨fun k j hk hj => (hs.1 k j hk hj).symm, fun t j ht hj => (hs.2 t j ht hj).symm⟩
theorem SAME.tr {f : V} (h1 : SAME e g) (h2 : SAME g f) : SAME e f := ⟨fun k j hk hj => (h2.1 k j hk hj).trans (h1.1 k j hk hj), fun t j ht hj => (h2.2 t j ht hj).trans (h1.2 t j ht hj)⟩
theorem stk_same (h : wf n a) (h' : wf n a') (hs : SAME a a') : stk n a' = stk n a := by
  unfold stk
  refine foru_w (fun k hk => ?_)
  have : dB (CANS n (pbk a') k) = dB (CANS n (pbk a) k) := dB_b (by
    rw [dB_t]
    exact ⟨fun z => (pbk_made hs).cn (wf_pbk h) z, fun z => (pbk_made hs.sym).cn (wf_pbk h') z⟩)
  rw [this]
/-- the hint is a needed step that can be made -/
theorem fst1_some {p : Nat → Bool} : ∀ m i k, fst1 p m i = some k → i ≤ k ∧ k < i + m ∧ p k = true
  | 0, i, k, h => by cases h
  | m + 1, i, k, h => by
    rw [fst1_s] at h
    by_cases c : p i = true
    · rw [if_pos c] at h
      obtain rfl := Option.some.inj h
      exact ⟨Nat.le_refl _, by omega, c⟩
    · rw [if_neg c] at h
      obtain ⟨h1, h2, h3⟩ := fst1_some m (i + 1) k h
      exact ⟨by omega, by omega, h3⟩
theorem fst1_none {p : Nat → Bool} : ∀ m i, fst1 p m i = none → ∀ k, i ≤ k → k < i + m → p k = false
  | 0, i, _, k, h1, h2 => absurd h2 (by omega)
  | m + 1, i, h, k, h1, h2 => by
    rw [fst1_s] at h
    by_cases c : p i = true
    · rw [if_pos c] at h; cases h
    · rw [if_neg c] at h
      by_cases e : k = i
      · subst e; simpa using c
      · exact fst1_none m (i + 1) h k (by omega) (by omega)
theorem hint_now (h : wf n a) (hd : d < n) (hp : posB n a d = true) (h0 : tot n a d ≠ 0) :
    (∃ k, k < n ∧ rHint n a d = nI (100 + k) ∧ CLO n a d k ∧ canO a k = true) ∨ (∃ t, t < 12 ∧ rHint n a d = nI (200 + t) ∧ CLO n a d (16 + t) ∧ canT a t = true) ∨ ∃ k, k < n ∧ rHint n a d = nI (300 + k) ∧ CLO n a d (28 + 3 * k + lfN a k) ∧ canL a k = true := by
  have hn := h.n16
  unfold rHint
  cases h1 : fst1 (fun k => cB n a d k && canO a k) 16 0 with
  | some k =>
    obtain ⟨-, q2, q3⟩ := fst1_some 16 0 k h1
    rw [Bool.and_eq_true] at q3
    exact Or.inl ⟨k, (cb_o h hd q3.1 (by omega)).1, nI_add 100 k, dB_t.mp q3.1, q3.2⟩
  | none =>
    dsimp only
    cases h2 : fst1 (fun t => cB n a d (16 + t) && canT a t) 12 0 with
    | some t =>
      obtain ⟨-, q2, q3⟩ := fst1_some 12 0 t h2
      rw [Bool.and_eq_true] at q3
      exact Or.inr (Or.inl ⟨t, by omega, nI_add 200 t, dB_t.mp q3.1, q3.2⟩)
    | none =>
      dsimp only
      cases h3 : fst1 (fun k => cB n a d (28 + 3 * k + lfN a k) && canL a k) 16 0 with
      | some k =>
        obtain ⟨-, q2, q3⟩ := fst1_some 16 0 k h3
        rw [Bool.and_eq_true] at q3
        have hk : k < n := by
          rcases Nat.lt_or_ge k n with z | z
          · exact z
          · have := (canL_t q3.2).1
            rw [(h.zr k z (by omega)).2.2.1] at this
            exact absurd this (by decide)
        exact Or.inr (Or.inr ⟨k, hk, nI_add 300 k, dB_t.mp q3.1, q3.2⟩)
      | none =>
        exfalso
        have n1 := fst1_none 16 0 h1
        have n2 := fst1_none 12 0 h2
        have n3 := fst1_none 16 0 h3
        obtain ⟨s, hs⟩ := Classical.not_forall.mp (fun z => h0 ((tot_0 h hd).mpr z))
        obtain ⟨s0, hc, hno⟩ := some_now h hd (dB_t.mp hp) (Classical.not_not.mp hs)
        have hcb : cB n a d s0 = true := dB_t.mpr hc
        have hbad := (cans_out (clo_cans (dB_t.mp hp) hc)).1
        rcases clo_vs h hd hc with ⟨z1, z2⟩ | ⟨j, hj, rfl, z⟩ | ⟨k, i, hk, rfl, z1, z2⟩
        · have := n1 s0 (Nat.zero_le _) (by omega)
          rw [hcb, now_O h z1 z2 hbad hno] at this; cases this
        · have := n2 j (Nat.zero_le _) (by omega)
          rw [hcb, now_T h hj z hno] at this; cases this
        · obtain ⟨rfl, hL⟩ := now_L h hk z1 z2 hno
          have := n3 k (Nat.zero_le _) (by omega)
          rw [hcb, hL] at this; cases this
theorem hint_none (h : wf n a) (hd : d < n) (h0 : tot n a d = 0) : rHint n a d = -5 := by
  have hno := (tot_0 h hd).mp h0
  have hb : ∀ s, cB n a d s = false := fun s => dB_f.mpr (hno s)
  unfold rHint
  rw [fst1_no 16 0 (fun k _ _ => by rw [hb]; rfl), fst1_no 12 0 (fun k _ _ => by rw [hb]; rfl), fst1_no 16 0 (fun k _ _ => by rw [hb]; rfl)]
/-- how a row and its state go on: the count of the game -/
def NX (n : Nat) (A A1 : Ab) : Prop := wf n A1.1.1 ∧ A1.1.1 1 = 1 ∧ stk n A1.1.1 = stk n A.1.1
/-- at the end: one step less is needed, one more is made -/
theorem G_213' {v3 v7 v8 : Int32} {v5 : UInt64} (hc : c ≤ 400) (hw : wfA c A1) (h : wf n A.1.1) (h1 : wf n A1.1.1) (hd : d < n) (hp : posB n A.1.1 d = true) (hm : MADE n A.1.1 A1.1.1 s0) (hcl : CLO n A.1.1 d s0) (hno : ∀ t, t < 76 → ¬ ND n A.1.1 s0 t) (h2 : A1.1.1 2 = A.1.1 2 + 1) (hQ : Q 1 A1) : EA scr (e0 + 8) nL_goes 213 [(0, .ref 0), (1, .int (nI d)), (2, .int (nI (tot n A.1.1 d))), (3, .int v3), (4, .int (A.1.1 2)), (5, .double v5), (7, .int v7), (8, .int v8)] [.int 1] A1 Q := by
  have hp1 : posB n A1.1.1 d = true := dB_t.mpr (hm.pos h hd (dB_t.mp hp))
  refine R_L_goes_213 hc hw ?_
  rw [h1.nOf, nd_0 h1 hd hp1, cnt5, h2, tot_made hm h hd hno hcl, nI_pred]
  exact ⟨fun y => absurd y one_ne0, fun _ => ⟨fun y => absurd rfl y, fun _ => ⟨fun y => absurd rfl y, fun _ => hQ⟩⟩⟩
theorem same_cmp {q : Nat} (hq : q < 2 ^ 20) : Op.cmpValue (FP.dcmp (dq q) (dq q)) CmpOp.l = 0 := by rw [dq_self hq]; rfl
theorem fs_pos {b : V} {j k m : Nat} (hz : ∀ k, k < m → fd b k j = 0 ∨ fd b k j = 1) (hm : m ≤ 16) (hk : k < m) (h1 : fd b k j = 1) : ¬ fsum (fun i => fd b i j) m ≤ 0 := by
  have e1 : fsum (fun i => fd b i j) m = nI (nsum (fun i => i01 (fd b i j == 1)) m) := by
    rw [← fs_nI]
    exact fs_w (fun i hi => by rcases hz i hi with z | z <;> rw [z] <;> rfl)
  have h2 : nsum (fun i => i01 (fd b i j == 1)) m ≤ m * 1 := nsum_le (fun i _ => i01_1 _)
  have pos : ∀ (f : Nat → Nat) (m i : Nat), i < m → f i ≤ nsum f m := fun f m => by
    induction m with
    | zero => exact fun i hi => absurd hi (Nat.not_lt_zero i)
    | succ m ih =>
      intro i hi
      show f i ≤ nsum f m + f m
      by_cases z : i = m
      · subst z; omega
      · have := ih i (by omega); omega
  have h3 := pos (fun i => i01 (fd b i j == 1)) m k hk
  have h4 : i01 (fd b k j == 1) = 1 := by rw [h1]; rfl
  rw [e1]
  exact nI_nle (by omega) (by omega)
theorem ft_pos {b : V} {j k m : Nat} (hz : ∀ k, k < m → ft b k j = 0 ∨ ft b k j = 1) (hm : m ≤ 16) (hk : k < m) (h1 : ft b k j = 1) : ¬ fsum (fun i => ft b i j) m ≤ 0 := by
  have e1 : fsum (fun i => ft b i j) m = nI (nsum (fun i => i01 (ft b i j == 1)) m) := by
    rw [← fs_nI]
    exact fs_w (fun i hi => by rcases hz i hi with z | z <;> rw [z] <;> rfl)
  have h2 : nsum (fun i => i01 (ft b i j == 1)) m ≤ m * 1 := nsum_le (fun i _ => i01_1 _)
  have pos : ∀ (f : Nat → Nat) (m i : Nat), i < m → f i ≤ nsum f m := fun f m => by
    induction m with
    | zero => exact fun i hi => absurd hi (Nat.not_lt_zero i)
    | succ m ih =>
      intro i hi
      show f i ≤ nsum f m + f m
      by_cases z : i = m
      · subst z; omega
      · have := ih i (by omega); omega
  have h3 := pos (fun i => i01 (ft b i j == 1)) m k hk
  have h4 : i01 (ft b k j == 1) = 1 := by rw [h1]; rfl
  rw [e1]
  exact nI_nle (by omega) (by omega)
/-- the three acts, where they can be done -/
theorem op_open (h : wf n A.1.1) (hg : A.1.1 1 = 1) (hk : k < n) (hc : canO A.1.1 k = true) : opOpen A (nI k) = (fsum (fun i => fd (opn A.1.1 k) i 6) n, act A (opn A.1.1 k) (4 + (fd A.1.1 k 3).toNatClampNeg)) := by
  have hn := h.n16
  unfold opOpen okOpen
  rw [if_pos (isD_of h.a0 hn hk), if_pos hg, kcl (by omega), if_neg (by rw [(canO_t hc).1]; decide), if_pos hc, h.nOf]
theorem op_take (hg : A.1.1 1 = 1) (ht : t < 12) (h : wf n A.1.1) (hc : canT A.1.1 t = true) : opTake A (nI t) = (fsum (fun i => ft (updT A.1.1 t 2 1) i 2) 12, act A (updT A.1.1 t 2 1) 1) := by
  unfold opTake okTake
  rw [if_pos (isT_of ht), if_pos hg, nI_clamp (by omega), if_neg (by rw [(canT_t h.zo ht hc).1]; decide), if_pos hc]
theorem op_lift (h : wf n A.1.1) (hg : A.1.1 1 = 1) (hk : k < n) (hc : canL A.1.1 k = true) : opLift A (nI k) = (fd A.1.1 k 5 + 1, act A (updF A.1.1 k 5 (fd A.1.1 k 5 + 1)) 10) := by
  have hn := h.n16
  unfold opLift okLift
  rw [if_pos (isD_of h.a0 hn hk), if_pos hg, kcl (by omega), if_pos (canL_t hc).2.2.1, if_pos hc]
theorem T_goes (hc : c ≤ 399) (hw : wfA c A) (h : wf n A.1.1) (hg : A.1.1 1 = 1) (hd : d < n) : CA scr (e0 + 9) nL_goes [.ref 0, .int (nI d)] A (fun x A1 => x = 1 ∧ wfA (c + 1) A1 ∧ NX n A A1) := by
  have hn := h.n16
  refine ca_of rfl rfl (R_L_goes_0 (by omega) hw ?_)
  rw [h.nOf]
  cases hp : posB n A.1.1 d
  · rw [nd_no h hd hp 0 (by decide), hn_no h hg hd hp]
    exact ⟨fun y => absurd y (by decide), fun _ => ⟨fun _ => ⟨fun y => absurd rfl y, fun _ => ⟨rfl, hw.up, h, hg, rfl⟩⟩, fun y => absurd (by decide) y⟩⟩
  · have t76 := tot_le (n := n) (e := A.1.1) (d := d)
    rw [nd_0 h hd hp, hn_yes h hg hd hp, cnt5]
    by_cases h0 : tot n A.1.1 d = 0
    · rw [h0, hint_none h hd h0]
      exact ⟨fun y => absurd y (by decide), fun _ => ⟨fun y => absurd rfl y, fun _ => ⟨fun y => absurd rfl y, fun _ => ⟨rfl, hw.up, h, hg, rfl⟩⟩⟩⟩
    · have hq : A.1.2 ≤ 13 * c := hw.1.2
      refine ⟨fun _ => ⟨by decide, ?_⟩, fun y => absurd ((nI_ltI (a := 0) (by decide) (by omega)).mpr (by omega)) y⟩
      have em : mnd A.1.1 A.1.2 = dq A.1.2 := by unfold mnd; rw [if_pos hg]
      rw [em]
      rcases hint_now h hd hp h0 with ⟨k, hk, e1, hcl, hcan⟩ | ⟨t, ht, e1, hcl, hcan⟩ | ⟨k, hk, e1, hcl, hcan⟩
      · rw [e1, show (100 : Int32) = nI 100 from rfl, nI_rem (by omega) (by decide) (by decide), show (100 + k) % 100 = k by omega]
        have ho := op_open h hg hk hcan
        obtain ⟨st, hst, est⟩ := (h.dr k hk).1
        rw [est, nI_clamp (by omega)] at ho
        have hwf : wf n (stp (opn A.1.1 k)) := wf_step (wf_opn h hk hg) _
        have hm := made_O h hk
        have hpos := fs_pos (b := opn A.1.1 k) (j := 6) (fun k2 hk2 => ((wf_opn h hk hg).zo.1 k2 (by omega)).1) hn hk (by rw [opn_6, if_pos rfl])
        have hK : EA scr (e0 + 8) nL_goes 75 [(0, .ref 0), (1, .int (nI d)), (2, .int (nI (tot n A.1.1 d))), (3, .int (nI (100 + k))), (4, .int (A.1.1 2)), (5, .double (dq A.1.2)), (7, .int (nI k))] [.int 1] A (fun x A1 => x = 1 ∧ wfA (c + 1) A1 ∧ NX n A A1) := by
          refine R_L_goes_75 (by omega) hw ⟨fun y => absurd y one_ne0, fun _ => ⟨fun y => absurd ((nI_leI (a := 200) (by decide) (by omega)).mp y) (by omega), fun _ => ?_⟩⟩
          rw [h.nOf, cnt8 hg, bit1_set (bs_bits (canO A.1.1) (by omega)) (by omega), decide_eq_true hk, Bool.true_and, hcan]
          refine ⟨fun y => absurd rfl y, fun _ => fun x4 A4 q4 => ?_⟩
          have hw4 : wfA (c + 1) A4 := by have := K_open (v := nI k) hw; rw [q4] at this; exact this
          rw [ho] at q4
          obtain ⟨rfl, rfl⟩ := Prod.mk.inj q4
          have e3 : opDrawer (act A (opn A.1.1 k) (4 + st)).1.1 (nI k) 3 = nI st := by
            show opDrawer (stp (opn A.1.1 k)) (nI k) 3 = nI st
            rw [drw3 hwf hk, stp_fd, opn_fd (by decide) (by decide) (by decide), est]
          have em4 : mnd (act A (opn A.1.1 k) (4 + st)).1.1 (act A (opn A.1.1 k) (4 + st)).1.2 = dq (A.1.2 + (4 + st)) := by
            show mnd (stp (opn A.1.1 k)) (A.1.2 + (4 + st)) = _
            unfold mnd; rw [if_pos (by show stp (opn A.1.1 k) 1 = 1; unfold stp; rw [hd_H, if_neg (by decide), opn_hd (by decide), hg])]
          refine ⟨fun y => absurd y hpos, fun _ => ?_⟩
          rw [e3, em4, show FP.ddiv (FP.i2d (nI st)) 4616189618054758400 = dq st from rfl, dq_turn st hst, dq_add (by omega) (by omega) (by omega), same_cmp (by omega)]
          refine ⟨vf_dq (by omega), vf_dq (by omega), vf_dq (by omega), fun y => absurd rfl y, fun _ => ?_⟩
          refine G_213' (by omega) hw4 h hwf hd hp hm hcl (fun t _ => canO_no h hk hcan t) ?_ ⟨rfl, hw4, hwf, ?_, stk_same h hwf hm.1⟩
          · show stp (opn A.1.1 k) 2 = _
            unfold stp; rw [hd_H, if_pos rfl, opn_hd (by decide)]
          · show stp (opn A.1.1 k) 1 = 1
            unfold stp; rw [hd_H, if_neg (by decide), opn_hd (by decide), hg]
        exact ⟨fun y => absurd ((nI_ltI (by omega) (by decide)).mp y) (by omega), fun _ => ⟨fun y => absurd ((nI_leI (a := 400) (by decide) (by omega)).mp y) (by omega), fun _ => hK⟩⟩
      · rw [e1, show (100 : Int32) = nI 100 from rfl, nI_rem (by omega) (by decide) (by decide), show (200 + t) % 100 = t by omega]
        have ho := op_take hg ht h hcan
        have hwf : wf n (stp (updT A.1.1 t 2 1)) := wf_step (wf_hand h ht hg) _
        have hm := made_T h ht
        have hpos := ft_pos (b := updT A.1.1 t 2 1) (j := 2) (m := 12) (fun k2 hk2 => (wf_hand h ht hg).zo.2 k2 hk2) (by decide) ht (by rw [ft_T (by decide) (by decide), if_pos ⟨rfl, rfl⟩])
        have hK : EA scr (e0 + 8) nL_goes 75 [(0, .ref 0), (1, .int (nI d)), (2, .int (nI (tot n A.1.1 d))), (3, .int (nI (200 + t))), (4, .int (A.1.1 2)), (5, .double (dq A.1.2)), (7, .int (nI t))] [.int 1] A (fun x A1 => x = 1 ∧ wfA (c + 1) A1 ∧ NX n A A1) := by
          refine R_L_goes_75 (by omega) hw ⟨fun y => absurd y one_ne0, fun _ => ⟨fun _ => ⟨fun y => absurd ((nI_leI (a := 300) (by decide) (by omega)).mp y) (by omega), fun _ => ?_⟩, fun y => absurd ((nI_leI (a := 200) (by decide) (by omega)).mpr (by omega)) y⟩⟩
          rw [thg3 ht hg, hcan]
          refine ⟨fun y => absurd rfl y, fun _ => fun x4 A4 q4 => ?_⟩
          have hw4 : wfA (c + 1) A4 := by have := K_take (v := nI t) hw; rw [q4] at this; exact this
          rw [ho] at q4
          obtain ⟨rfl, rfl⟩ := Prod.mk.inj q4
          have em4 : mnd (act A (updT A.1.1 t 2 1) 1).1.1 (act A (updT A.1.1 t 2 1) 1).1.2 = dq (A.1.2 + 1) := by
            show mnd (stp (updT A.1.1 t 2 1)) (A.1.2 + 1) = _
            unfold mnd; rw [if_pos (by show stp (updT A.1.1 t 2 1) 1 = 1; unfold stp; rw [hd_H, if_neg (by decide), hd_T (by decide), hg])]
          refine ⟨fun y => absurd y hpos, fun _ => ?_⟩
          rw [em4, dq_1, dq_add (by decide) (by decide) (by omega), same_cmp (by omega)]
          refine ⟨vf_dq (by omega), fun y => absurd rfl y, fun _ => ?_⟩
          refine G_213' (by omega) hw4 h hwf hd hp hm hcl (fun t2 _ => canT_no h ht hcan t2) ?_ ⟨rfl, hw4, hwf, ?_, stk_same h hwf hm.1⟩
          · show stp (updT A.1.1 t 2 1) 2 = _
            unfold stp; rw [hd_H, if_pos rfl, hd_T (by decide)]
          · show stp (updT A.1.1 t 2 1) 1 = 1
            unfold stp; rw [hd_H, if_neg (by decide), hd_T (by decide), hg]
        exact ⟨fun y => absurd ((nI_ltI (by omega) (by decide)).mp y) (by omega), fun _ => ⟨fun y => absurd ((nI_leI (a := 400) (by decide) (by omega)).mp y) (by omega), fun _ => hK⟩⟩
      · rw [e1, show (100 : Int32) = nI 100 from rfl, nI_rem (by omega) (by decide) (by decide), show (300 + k) % 100 = k by omega]
        have ho := op_lift h hg hk hcan
        have hlt := (canL_t hcan).2.2.1
        have hk16 : k < 16 := by omega
        have hl3 : lfN A.1.1 k < 3 := by
          obtain ⟨b, hb, q1, q2⟩ := wf_bm h hk16
          have := lf3 h hk16
          rw [(wf_lf h hk16).1, q1] at hlt
          have := (nI_ltI (by omega) (by omega)).mp hlt
          omega
        have hwl := lift_x (A := A) h hk hg hlt
        have hwf : wf n (stp (updF A.1.1 k 5 (fd A.1.1 k 5 + 1))) := wf_step hwl _
        have hm := made_L h hk hl3
        have hpos : ¬ fd A.1.1 k 5 + 1 ≤ 0 := by rw [(wf_lf h hk16).1, nI_1]; exact nI_nle (by omega) (by omega)
        have hK : EA scr (e0 + 8) nL_goes 75 [(0, .ref 0), (1, .int (nI d)), (2, .int (nI (tot n A.1.1 d))), (3, .int (nI (300 + k))), (4, .int (A.1.1 2)), (5, .double (dq A.1.2)), (7, .int (nI k))] [.int 1] A (fun x A1 => x = 1 ∧ wfA (c + 1) A1 ∧ NX n A A1) := by
          refine R_L_goes_75 (by omega) hw ⟨fun y => absurd y one_ne0, fun _ => ⟨fun _ => ⟨fun _ => fun x4 A4 q4 => ?_, fun y => absurd ((nI_leI (a := 300) (by decide) (by omega)).mpr (by omega)) y⟩, fun y => absurd ((nI_leI (a := 200) (by decide) (by omega)).mpr (by omega)) y⟩⟩
          have hw4 : wfA (c + 1) A4 := by have := K_lift (v := nI k) hw; rw [q4] at this; exact this
          rw [ho] at q4
          obtain ⟨rfl, rfl⟩ := Prod.mk.inj q4
          have em4 : mnd (act A (updF A.1.1 k 5 (fd A.1.1 k 5 + 1)) 10).1.1 (act A (updF A.1.1 k 5 (fd A.1.1 k 5 + 1)) 10).1.2 = dq (A.1.2 + 10) := by
            show mnd (stp (updF A.1.1 k 5 (fd A.1.1 k 5 + 1))) (A.1.2 + 10) = _
            unfold mnd; rw [if_pos (by show stp (updF A.1.1 k 5 (fd A.1.1 k 5 + 1)) 1 = 1; unfold stp; rw [hd_H, if_neg (by decide), hd_F (by decide), hg])]
          refine ⟨fun y => absurd y hpos, fun _ => ?_⟩
          rw [em4, dq_10, dq_add (by decide) (by decide) (by omega), same_cmp (by omega)]
          refine ⟨vf_dq (by omega), fun y => absurd rfl y, fun _ => ?_⟩
          refine G_213' (by omega) hw4 h hwf hd hp hm hcl (fun t2 _ => canL_no h hk hcan t2) ?_ ⟨rfl, hw4, hwf, ?_, stk_same h hwf hm.1⟩
          · show stp (updF A.1.1 k 5 (fd A.1.1 k 5 + 1)) 2 = _
            unfold stp; rw [hd_H, if_pos rfl, hd_F (by decide)]
          · show stp (updF A.1.1 k 5 (fd A.1.1 k 5 + 1)) 1 = 1
            unfold stp; rw [hd_H, if_neg (by decide), hd_F (by decide), hg]
        exact ⟨fun y => absurd ((nI_ltI (by omega) (by decide)).mp y) (by omega), fun _ => ⟨fun y => absurd ((nI_leI (a := 400) (by decide) (by omega)).mp y) (by omega), fun _ => hK⟩⟩
end GO
