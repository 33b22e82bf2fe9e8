/-! the law itself: it answers true -/
section LW
variable {Lb c n t k : Nat} {xs : Nat → Int32} {a : V} {A : Ab}
abbrev QL : Int32 → Ab → Prop := fun x _ => x = 1
abbrev LL (s : Int32) (i : Int32) : Lc := [(0, .retAddr 0), (1, .ref 0), (2, .int 1), (3, .int s), (4, .int i)]
/-- the game that begins -/
def bg (a : V) : V := updH (asl a) 1 1
theorem bg_fd (hk : k < 16) {j : Nat} (hj : j < 8) : fd (bg a) k j = if 5 ≤ j then 0 else fd a k j := by unfold bg; rw [fd_H (by decide), asl_fd hk hj]
theorem bg_ft (ht : t < 12) {j : Nat} (hj : j < 3) : ft (bg a) t j = if j = 2 then 0 else ft a t j := by unfold bg; rw [ft_H (by decide), asl_ft ht hj]
theorem wf_bg (h : wf n a) : wf n (bg a) := wf_asl h 1 (Or.inr rfl)
theorem bg_1 : bg a 1 = 1 := rfl
theorem lacks_no (hb : ∀ i, i < n → fd a i 1 = 2 → byN a i < n) (h : wf n a) : ∀ m, m ≤ n → lacks n a m = false
  | 0, _ => rfl
  | m + 1, hm => by
    have hn := h.n16
    show (lacks n a m || lack1 n a m) = false
    rw [lacks_no hb h m (by omega), Bool.false_or]
    unfold lack1
    by_cases z : fd a m 1 = 2
    · have h1 := hb m (by omega) z
      obtain ⟨j, hj, ej⟩ := (h.by' m (by omega)).2 z
      have e2 : byN a m = j := by unfold byN; rw [ej, nI_clamp (by omega)]
      rw [ej, decide_eq_false (fun y => by have := (nI_leI (by omega) (by omega)).mp y; omega), Bool.and_false]
    · rw [beq_eq_false_iff_ne.mpr z, Bool.false_and]
theorem op_begin (h : wf n A.1.1) (hg : A.1.1 1 = 0) (h0 : 0 < n) (hb : ∀ i, i < n → fd A.1.1 i 1 = 2 → byN A.1.1 i < n) : opBegin A = (nI n, ((bg A.1.1, 0), (recA A).2)) := by
  have hn := h.n16
  unfold opBegin bg
  rw [if_neg (by rw [hg]; decide), h.nOf, h.a0, if_neg (nI_ne0 h0 (by omega)), lacks_no hb h n (Nat.le_refl _), if_neg (by decide)]
/-- as the game begins: possible is just what is not stuck -/
theorem bg_pos (h : wf n a) (hk : k < n) : posB n (bg a) k = dB (CANS n (pbk (bg a)) k) := by
  have hn := h.n16
  have hw := wf_bg h
  have hm : MADE n (bg a) (pbk (bg a)) 1000 := by
    refine made_none ⟨fun k j hk hj => ?_, fun t j ht hj => ?_⟩ (fun k hk => ?_) (fun k hk => ?_) (fun j hj => ?_)
    · rw [pbk_fd hk (by omega), if_neg (by omega)]
    · rw [pbk_ft ht (by omega), if_neg (by omega)]
    · rw [pbk_fd hk (by decide), bg_fd hk (by decide)]; rfl
    · rw [pbk_fd hk (by decide), bg_fd hk (by decide)]; rfl
    · rw [pbk_ft hj (by decide), bg_ft hj (by decide)]; rfl
  have hm' : MADE n (pbk (bg a)) (bg a) 1000 := by
    refine made_none ⟨fun k j hk hj => ?_, fun t j ht hj => ?_⟩ (fun k hk => ?_) (fun k hk => ?_) (fun j hj => ?_)
    · rw [pbk_fd hk (by omega), if_neg (by omega)]
    · rw [pbk_ft ht (by omega), if_neg (by omega)]
    · rw [pbk_fd hk (by decide), bg_fd hk (by decide)]; rfl
    · rw [pbk_fd hk (by decide), bg_fd hk (by decide)]; rfl
    · rw [pbk_ft hj (by decide), bg_ft hj (by decide)]; rfl
  have hc : clo (bg a) k := bg_fd (by omega) (by decide)
  unfold posB
  refine dB_b ?_
  rw [dB_t]
  constructor
  · intro z t ht
    have zk := hm'.cn (wf_pbk hw) z
    rcases ht.1 with u | rfl
    · exact (cans_out zk).2 t (by have := UP_lt hw.out hn hk u; omega) (Or.inl ⟨hk, hc, Or.inl ⟨u, ht.2⟩⟩)
    · exact zk
  · intro z
    exact hm.cn hw (z k ⟨Or.inr rfl, hc⟩)
theorem stk_bit (hk : k < n) (hn : n ≤ 16) : (stk n a >>> (nI k &&& 31)) &&& 1 = b2i (!dB (CANS n (pbk a) k)) := by
  have hb : bset (stk n a) n (fun k => !dB (CANS n (pbk a) k)) := bs_foru n (by omega)
  rw [bit1_set hb (by omega), decide_eq_true hk, Bool.true_and]
theorem rec_last {p : Nat} {hs : Nat → RQ} {r : RQ} (hp : p ≤ 4) : (recH p hs r).1 ≠ 0 ∧ (recH p hs r).1 ≤ 4 ∧ (recH p hs r).2 ((recH p hs r).1 - 1) = r := by
  unfold recH
  by_cases z : p < 4
  · rw [if_pos z]
    refine ⟨Nat.succ_ne_zero p, by show p + 1 ≤ 4; omega, ?_⟩
    show (if p + 1 - 1 = p then r else hs (p + 1 - 1)) = r
    rw [if_pos (by omega)]
  · rw [if_neg z]
    exact ⟨(by decide : (4 : Nat) ≠ 0), Nat.le_refl 4, rfl⟩
/-- the end -/
theorem M_310 {i : Int32} (hLb : Lb ≤ 260) (hc : c ≤ 390) (hw : wfA c A) (h : wf n A.1.1) (hg : A.1.1 1 = 1) : EA (some (Lb, xs)) 9 nL_law 310 (LL (stk n A.1.1) i) [] A QL := by
  have hn := h.n16
  refine R_L_law_310 hLb (by omega) hw ?_
  rw [h.nOf, cnt7, cnt5]
  refine ⟨fun y => absurd y one_ne0, fun _ => ⟨fun y => absurd rfl y, fun _ => fun x5 A5 q5 => ?_⟩⟩
  have hw5 : wfA (c + 1) A5 := by have := K_giveUp hw; rw [q5] at this; exact this
  have e5 : opGiveUp A = (A.1.1 2, ((updH (asl A.1.1) 1 0, 0), (recA A).2)) := by unfold opGiveUp; rw [if_pos hg]
  rw [e5] at q5
  obtain ⟨rfl, q6⟩ := Prod.mk.inj q5
  have eR : A5.1.1 = pbk A.1.1 := by rw [← q6]; rfl
  have eQ : A5.1.2 = 0 := by rw [← q6]
  have eH : A5.2.1 = recH A.2.1.1 A.2.1.2 A.1 := by rw [← q6]; rfl
  have eS : A5.2.2 = A.2.2 := by rw [← q6]; rfl
  clear q5 q6 e5
  have hp := wf_pbk h
  have em : mnd A5.1.1 A5.1.2 = 13830554455654793216 := by
    rw [eR, eQ]; unfold mnd
    rw [if_neg (by show ¬ (updH (asl A.1.1) 1 0) 1 = 1; rw [hd_H, if_pos rfl]; decide)]
  rw [em, eR, hp.nOf, cnt2, cnt3, eR]
  refine ⟨fun y => absurd rfl y, fun _ => ⟨fun y => absurd (by decide +kernel) y, fun _ => ⟨fun y => absurd ?_ y, fun _ => ⟨fun y => absurd ?_ y, fun _ => fun x13 A13 q13 => ?_⟩⟩⟩⟩
  · exact fs_z n (fun i hi => by rw [pbk_fd (by omega) (by decide)]; rfl)
  · exact bs_ext (bs_bits _ (by decide)) (bs_0 12) (fun t ht => by rw [pbk_ft ht (by decide)]; rfl)
  · have hw13 : wfA (c + 1 + 1) A13 := by have := K_undo hw5; rw [q13] at this; exact this
    obtain ⟨r1, r2, r3⟩ := rec_last (hs := A.2.1.2) (r := A.1) hw.2.1
    have e13 : opUndo A5 = (nI ((recH A.2.1.1 A.2.1.2 A.1).1 - 1), (A.1, ((recH A.2.1.1 A.2.1.2 A.1).1 - 1, (recH A.2.1.1 A.2.1.2 A.1).2), A.2.2)) := by
      unfold opUndo
      rw [eH, eS, if_neg r1, r3]
    rw [e13] at q13
    obtain ⟨rfl, q14⟩ := Prod.mk.inj q13
    have e1 : A13.1 = A.1 := by rw [← q14]
    clear q13 q14 e13
    have h13 : wf n A13.1.1 := by rw [e1]; exact h
    have g13 : A13.1.1 1 = 1 := by rw [e1]; exact hg
    rw [h13.nOf, cnt5, e1]
    refine ⟨fun y => absurd y (nI_pos (by omega)), fun _ => ⟨fun y => absurd rfl y, fun _ => ca_w (T_isAll (e := 0) (by omega) hw13 h13 g13) (fun x17 A17 q => ?_)⟩⟩
    obtain ⟨rfl, rfl⟩ := q
    exact ⟨c + 1 + 1, by omega, hw13, fun y => absurd y one_ne0, fun _ => rfl⟩
/-- behind an act -/
theorem M_282 {v5 s s' : Int32} (hLb : Lb ≤ 260) (hc : c ≤ 390) (hw : wfA c A) (hg : A.1.1 1 = 1) (hs : s' = s) (next : ∀ A1, wfA (c + 1) A1 → A1 = A → EA (some (Lb, xs)) 9 nL_law 170 (LL (stk n A.1.1) (nI (t + 1))) [] A1 QL) : EA (some (Lb, xs)) 9 nL_law 282 (LL (stk n A.1.1) (nI t) ++ [(5, .int v5)]) [.int s, .int s'] A QL := by
  refine R_L_law_282 hLb (by omega) hw ⟨fun y => absurd hs y, fun _ => fun x2 A2 q2 => ?_⟩
  have hw2 : wfA (c + 1) A2 := by have := K_lay (v := 0) (w := -5) (u := 0) hw; rw [q2] at this; exact this
  have e2 : opLay A 0 (-5) 0 = (-4, A) := by
    unfold opLay
    rw [if_pos ⟨by decide, Or.inl rfl⟩, if_pos ⟨by decide, by show (0 : Int32) ≤ (if (-5 : Int32) = -5 then 0 else _); rw [if_pos rfl]; decide⟩, if_pos hg]
  rw [e2] at q2
  obtain ⟨rfl, q3⟩ := Prod.mk.inj q2
  rw [nI_1]
  exact ⟨fun y => absurd rfl y, fun _ => next A2 hw2 q3.symm⟩
theorem M_226 {vv : Nat} (hLb : Lb ≤ 260) (hc : c ≤ 380) (hw : wfA c A) (h : wf n A.1.1) (hg : A.1.1 1 = 1) (h0 : 0 < n) (hn9 : n ≤ 9) (hv : vv < 2 ^ 31) (next : ∀ A1, wfA (c + 2) A1 → A1 = A → EA (some (Lb, xs)) 9 nL_law 170 (LL (stk n A.1.1) (nI (t + 1))) [] A1 QL) : EA (some (Lb, xs)) 9 nL_law 226 (LL (stk n A.1.1) (nI t) ++ [(5, .int (nI vv))]) [.int 1] A QL := by
  have d20 : vv / 2 ^ 20 < 2 ^ 31 := Nat.lt_of_le_of_lt (Nat.div_le_self _ _) hv
  refine R_L_law_226 hLb (by omega) hw ?_
  rw [h.nOf, cnt0, h.a0, show (20 : Int32) = nI 20 from rfl, nI_shr hv (by decide), nI_rem d20 h0 (by omega)]
  have hk : vv / 2 ^ 20 % n < n := Nat.mod_lt _ h0
  generalize vv / 2 ^ 20 % n = k at hk
  refine ⟨fun y => absurd y one_ne0, fun _ => ⟨nI_ne0 h0 (by omega), ca_w (T_isNeeded (e := 0) (by omega) hw h hg hk) (fun x3 A3 q3 => ?_)⟩⟩
  obtain ⟨rfl, rfl⟩ := q3
  refine ⟨c, by omega, hw, fun y => absurd y one_ne0, fun _ => ca_w (T_isAll (e := 0) (by omega) hw h hg) (fun x5 A5 q5 => ?_)⟩
  obtain ⟨rfl, rfl⟩ := q5
  refine ⟨c, by omega, hw, fun y => absurd y one_ne0, fun _ => fun x7 A7 q7 => ?_⟩
  have hw7 : wfA (c + 1) A7 := by have := K_build (v := -5) (w := 0) (u := 0) (x := 0) hw; rw [q7] at this; exact this
  have e7 : opBuild A5 (-5) 0 0 0 = (-4, A5) := by
    unfold opBuild
    rw [if_pos (Or.inl rfl), if_pos ⟨Or.inl rfl, by decide, by decide⟩, h.nOf, if_pos (by omega), if_pos hg]
  rw [e7] at q7
  obtain ⟨rfl, rfl⟩ := Prod.mk.inj q7
  rw [h.nOf, cnt0, h.a0]
  refine ⟨fun _ => M_282 hLb (by omega) hw7 hg rfl (fun A1 w1 e1 => next A1 w1 e1), fun y => absurd ?_ y⟩
  exact fun z => by have := nI_inj' (b := 16) (by omega) (by decide) z; omega
theorem M_170s {s : Int32} (hLb : Lb ≤ 260) (h0 : 0 < n) (hn9 : n ≤ 9) (hc : c ≤ 370) (ht : t < 24) (hw : wfA c A) (h : wf n A.1.1) (hg : A.1.1 1 = 1) (hs : stk n A.1.1 = s) (next : ∀ c2 A2, c2 ≤ c + 3 → wfA c2 A2 → wf n A2.1.1 → A2.1.1 1 = 1 → stk n A2.1.1 = s → EA (some (Lb, xs)) 9 nL_law 170 (LL s (nI (t + 1))) [] A2 QL) : EA (some (Lb, xs)) 9 nL_law 170 (LL s (nI t)) [] A QL := by
  obtain ⟨vv, hv, ev⟩ := cell_n Lb xs (23 + nI t)
  have d12 : vv / 2 ^ 12 < 2 ^ 31 := Nat.lt_of_le_of_lt (Nat.div_le_self _ _) hv
  have d16 : vv / 2 ^ 16 < 2 ^ 31 := Nat.lt_of_le_of_lt (Nat.div_le_self _ _) hv
  have goon : ∀ (x5 : Int32) (A5 : Ab), (x5 = 1 ∧ wfA (c + 1) A5 ∧ NX n A A5) → ∃ c5, c5 ≤ 400 ∧ wfA c5 A5 ∧ EA (some (Lb, xs)) 9 nL_law 226 (LL s (nI t) ++ [(5, .int (nI vv))]) [.int x5] A5 QL := fun x5 A5 q => by
    obtain ⟨rfl, hw5, h5, g5, s5⟩ := q
    refine ⟨c + 1, by omega, hw5, ?_⟩
    have e5 : stk n A5.1.1 = s := s5.trans hs
    subst e5
    exact M_226 hLb (by omega) hw5 h5 g5 h0 hn9 hv (fun A1 w1 e1 => next (c + 1 + 2) A1 (by omega) w1 (by rw [e1]; exact h5) (by rw [e1]; exact g5) (by rw [e1]))
  refine R_L_law_170 hLb (by omega) hw ?_
  rw [ev, h.nOf, cnt0, h.a0, show (12 : Int32) = nI 12 from rfl, show (16 : Int32) = nI 16 from rfl, nI_shr hv (by decide), nI_shr hv (by decide), nI_rem d16 h0 (by omega)]
  have hk : vv / 2 ^ 16 % n < n := Nat.mod_lt _ h0
  generalize vv / 2 ^ 16 % n = k at hk
  refine ⟨fun y => absurd ((nI_leI (a := 24) (by decide) (by omega)).mp y) (by omega), fun _ => ⟨fun y => absurd y one_ne0, fun _ => ⟨?_, by decide, fun _ => ?_, fun _ => ⟨nI_ne0 h0 (by omega), ?_⟩⟩⟩⟩
  · rw [show (23 : Int32) = nI 23 from rfl, nI_add]; exact nI_pos' (by omega)
  · exact ca_w (T_acts (e0 := 0) (by omega) hw h hg h0 hv) goon
  · exact ca_w (T_goes (e0 := 0) (by omega) hw h hg hk) goon
theorem M_170e {s : Int32} (hLb : Lb ≤ 260) (hc : c ≤ 390) (hw : wfA c A) (h : wf n A.1.1) (hg : A.1.1 1 = 1) (hs : stk n A.1.1 = s) : EA (some (Lb, xs)) 9 nL_law 170 (LL s (nI 24)) [] A QL := by
  subst hs
  refine R_L_law_170 hLb (by omega) hw ⟨fun _ => ?_, fun y => absurd (show (24 : Int32) ≤ nI 24 by decide) y⟩
  exact M_310 hLb hc hw h hg
theorem M_170 (hLb : Lb ≤ 260) (h0 : 0 < n) (hn9 : n ≤ 9) (hc : c + 72 ≤ 370) (s : Int32) (m : Nat) : ∀ (t c1 : Nat) (A : Ab), t + m = 24 → c1 ≤ c + 3 * t → wfA c1 A → wf n A.1.1 → A.1.1 1 = 1 → stk n A.1.1 = s → EA (some (Lb, xs)) 9 nL_law 170 (LL s (nI t)) [] A QL := by
  induction m with
  | zero =>
    intro t c1 A ht h1 hw h hg hs
    have e : t = 24 := by omega
    rw [e]
    exact M_170e hLb (by omega) hw h hg hs
  | succ m ih =>
    intro t c1 A ht h1 hw h hg hs
    exact M_170s hLb h0 hn9 (by omega) (by omega) hw h hg hs (fun c2 A2 z1 z2 z3 z4 z5 => ih (t + 1) c2 A2 (by omega) (by omega) z2 z3 z4 z5)
theorem M_139 {i : Int32} (hLb : Lb ≤ 260) (h0 : 0 < n) (hn9 : n ≤ 9) (hc : c + 72 ≤ 370) (hw : wfA c A) (h : wf n A.1.1) (hg : A.1.1 1 = 1) : EA (some (Lb, xs)) 9 nL_law 139 (LL (stk n A.1.1) i) [] A QL := by
  have k1 : EA (some (Lb, xs)) 9 nL_law 170 (LL (stk n A.1.1) 0) [] A QL := M_170 hLb h0 hn9 hc _ 24 0 c A rfl (by omega) hw h hg rfl
  refine R_L_law_139 hLb (by omega) hw ?_
  rw [h.nOf, cnt6]
  refine ⟨fun y => absurd y one_ne0, fun _ => ⟨fun c1 => ?_, fun c1 => ?_⟩⟩
  · rw [if_neg c1]
    exact ⟨fun y => absurd rfl y, fun _ => k1⟩
  · rw [if_pos (Classical.not_not.mp c1)]
    exact ⟨fun y => absurd rfl y, fun _ => k1⟩
theorem M_78 (hLb : Lb ≤ 260) (h0 : 0 < n) (hn9 : n ≤ 9) (hc : c + 72 ≤ 370) (hw : wfA c A) (h : wf n A.1.1) (hg : A.1.1 1 = 1) (hp : ∀ k, k < n → posB n A.1.1 k = dB (CANS n (pbk A.1.1) k)) : ∀ (m k : Nat), k + m = n → EA (some (Lb, xs)) 9 nL_law 78 (LL (stk n A.1.1) (nI k)) [] A QL
  | 0, k, hk => by
    refine R_L_law_78 hLb (by omega) hw ?_
    rw [h.nOf, cnt0, h.a0]
    exact ⟨fun _ => M_139 hLb h0 hn9 hc hw h hg, fun y => absurd ((nI_leI (by omega) (by omega)).mpr (by omega)) y⟩
  | m + 1, k, hk => by
    have hkn : k < n := by omega
    have next := M_78 hLb h0 hn9 hc hw h hg hp m (k + 1) (by omega)
    have goon : ∀ (x7 : Int32) (A7 : Ab), (x7 = 1 ∧ A7 = A) → ∃ c7, c7 ≤ 400 ∧ wfA c7 A7 ∧ ((x7 = 0 → EA (some (Lb, xs)) 9 nL_law 78 [(0, .retAddr 0), (1, .ref 0), (2, .int 0), (3, .int (stk n A.1.1)), (4, .int (nI (k + 1)))] [] A7 QL) ∧ (¬ x7 = 0 → EA (some (Lb, xs)) 9 nL_law 78 [(0, .retAddr 0), (1, .ref 0), (2, .int 1), (3, .int (stk n A.1.1)), (4, .int (nI (k + 1)))] [] A7 QL)) := fun x7 A7 q => by
      obtain ⟨rfl, rfl⟩ := q
      exact ⟨c, by omega, hw, fun y => absurd y one_ne0, fun _ => next⟩
    refine R_L_law_78 hLb (by omega) hw ?_
    rw [h.nOf, cnt0, h.a0, stk_bit hkn h.n16, ← hp k hkn, nI_1]
    refine ⟨fun y => absurd ((nI_leI (by omega) (by omega)).mp y) (by omega), fun _ => ⟨fun y => absurd y one_ne0, fun _ => ?_⟩⟩
    cases hpos : posB n A.1.1 k
    · rw [nd_no h hkn hpos 0 (by decide)]
      exact ⟨fun y => absurd rfl y, fun _ => ⟨fun y => absurd rfl y, fun _ => ca_w (T_isNeeded (e := 0) (by omega) hw h hg hkn) goon⟩⟩
    · rw [nd_0 h hkn hpos]
      have t76 := tot_le (n := n) (e := A.1.1) (d := k)
      have hne : ¬ nI (tot n A.1.1 k) = -4 := fun z => by
        have := nI_pos' (n := tot n A.1.1 k) (by omega)
        rw [z] at this
        exact absurd this (by decide)
      exact ⟨fun _ => ⟨fun y => absurd rfl y, fun _ => ca_w (T_isNeeded (e := 0) (by omega) hw h hg hkn) goon⟩, fun y => absurd hne y⟩
theorem T_law (hLb : Lb ≤ 260) : EA (some (Lb, xs)) 9 nL_law 8 [(1, .ref 0), (0, .retAddr 0)] [] A0 QL := by
  refine R_L_law_8 hLb (c := 0) (by decide) wfA_0 (fun x1 A1 q1 => ?_)
  have hw1 : wfA 1 A1 := by have := K_begin wfA_0; rw [q1] at this; exact this
  have e1 : opBegin A0 = (-4, A0) := by
    unfold opBegin
    have g0 : A0.1.1 0 = 0 := z0_hd (j := 0) (by decide)
    have g1 : A0.1.1 1 = 0 := z0_hd (j := 1) (by decide)
    rw [if_neg (by rw [g1]; decide), if_pos g0]
  rw [e1] at q1
  obtain ⟨rfl, rfl⟩ := Prod.mk.inj q1
  refine ⟨fun y => absurd rfl y, fun _ => fun x4 A4 q4 => ?_⟩
  have hw4 : wfA 2 A4 := by have := K_undo hw1; rw [q4] at this; exact this
  have e4 : opUndo A0 = (-5, A0) := by unfold opUndo; exact if_pos rfl
  rw [e4] at q4
  obtain ⟨rfl, rfl⟩ := Prod.mk.inj q4
  have hB : ∀ m, BI m 0 A0.1.1 := fun m => ⟨wf_z0, z0_hd (j := 1) (by decide), fun t ht => z0_ft0 ht, fun i hi => absurd hi (Nat.not_lt_zero i)⟩
  refine ⟨fun y => absurd rfl y, fun _ => ca_w (T_builds (e := 0) hLb (by decide) hw4 hB) (fun x7 A7 q7 => ?_)⟩
  obtain ⟨rfl, c7, n, hc7, hw7, h2, h9, hL⟩ := q7
  refine ⟨c7, by omega, hw7, fun y => absurd y one_ne0, fun _ => fun x10 A10 q10 => ?_⟩
  have hw10 : wfA (c7 + 1) A10 := by have := K_begin hw7; rw [q10] at this; exact this
  rw [op_begin hL.1 hL.2.1 (by omega) hL.2.2.2] at q10
  obtain ⟨rfl, q11⟩ := Prod.mk.inj q10
  have eR : A10.1.1 = bg A7.1.1 := by rw [← q11]
  have eQ : A10.1.2 = 0 := by rw [← q11]
  clear q10 q11
  have h10 : wf n A10.1.1 := by rw [eR]; exact wf_bg hL.1
  have g10 : A10.1.1 1 = 1 := by rw [eR]; exact bg_1
  have p10 : ∀ k, k < n → posB n A10.1.1 k = dB (CANS n (pbk A10.1.1) k) := fun k hk => by rw [eR]; exact bg_pos hL.1 hk
  have em : mnd A10.1.1 A10.1.2 = dq 0 := by rw [eQ]; unfold mnd; rw [if_pos g10]
  have eb : mnb A10.1.1 A10.1.2 = 0 := by rw [eQ]; unfold mnb; rw [if_pos g10, fq_0]; rfl
  rw [h10.nOf, cnt0, h10.a0, em, eb, cnt7, dq_0]
  exact ⟨fun y => absurd rfl y, fun _ => ⟨fun y => absurd (by decide +kernel) y, fun _ => ⟨fun y => absurd rfl y, fun _ => M_78 hLb (by omega) h9 (c := c7 + 1) (by omega) hw10 h10 g10 p10 n 0 (by omega)⟩⟩⟩
end LW
