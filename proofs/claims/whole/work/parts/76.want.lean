/-! the end of a season: who is wanting, who may go up -/
def rs (x : llMem) (c : Nat) : Bool := decide (x.1 18 c = 1)
def lvLt (A : Ab) (k c : Nat) : Bool := match A.st c with
  | some (l, _) => decide (l < k)
  | none => false
def lvIs (A : Ab) (k c : Nat) : Bool := decide ((A.st c).map Prod.fst = some k)
def wanB (A : Ab) (x : llMem) (k : Nat) : Nat := ((List.range A.nc).filter (fun c => rs x c && lvLt A k c)).length
def mayB (A : Ab) (x : llMem) (c : Nat) : Bool := match A.st c with
  | some (l, _) => decide (0 < l ∧ x.1 18 c = 0 ∧ x.1 19 c = 0 ∧ ¬ x.1 11 c < nI (A.nd (l - 1)))
  | none => false
def mayN (A : Ab) (x : llMem) (l : Nat) : Nat := ((List.range A.nc).filter (fun c => lvIs A l c && mayB A x c)).length
theorem filt_len (P : Nat → Bool) (n : Nat) : ((List.range n).filter P).length ≤ n := by
  have := List.length_filter_le P (List.range n)
  rw [List.length_range] at this; exact this
theorem filt_add {P Q R : Nat → Bool} : ∀ (L : List Nat), (∀ o, o ∈ L → R o = (P o || Q o) ∧ (P o && Q o) = false) → (L.filter R).length = (L.filter P).length + (L.filter Q).length
  | [], _ => rfl
  | a :: L, h => by
    have ih := filt_add (P := P) (Q := Q) (R := R) L (fun o ho => h o (List.mem_cons_of_mem _ ho))
    obtain ⟨h1, h2⟩ := h a (List.mem_cons_self ..)
    cases ep : P a
    · cases eq : Q a
      · rw [ep, eq] at h1
        rw [List.filter_cons_of_neg (by rw [h1]; decide), List.filter_cons_of_neg (by rw [ep]; decide), List.filter_cons_of_neg (by rw [eq]; decide)]; exact ih
      · rw [ep, eq] at h1
        rw [List.filter_cons_of_pos (by rw [h1]; rfl), List.filter_cons_of_neg (by rw [ep]; decide), List.filter_cons_of_pos eq, List.length_cons, List.length_cons]; omega
    · cases eq : Q a
      · rw [ep, eq] at h1
        rw [List.filter_cons_of_pos (by rw [h1]; rfl), List.filter_cons_of_pos ep, List.filter_cons_of_neg (by rw [eq]; decide), List.length_cons, List.length_cons]; omega
      · rw [ep, eq] at h2; cases h2
theorem lvLt_s (A : Ab) (k c : Nat) : lvLt A (k + 1) c = (lvLt A k c || lvIs A k c) ∧ (lvLt A k c && lvIs A k c) = false := by
  unfold lvLt lvIs
  cases e : A.st c with
  | none => exact ⟨rfl, rfl⟩
  | some y =>
    obtain ⟨l, d⟩ := y
    dsimp only
    have e1 : decide ((some (l, d) : Option (Nat × Nat)).map Prod.fst = some k) = decide (l = k) := by rw [decide_eq_decide]; simp
    rw [e1]
    by_cases q : l < k
    · rw [decide_eq_true (show l < k + 1 by omega), decide_eq_true q, decide_eq_false (show ¬ l = k by omega)]; exact ⟨rfl, rfl⟩
    · by_cases q2 : l = k
      · rw [decide_eq_true (show l < k + 1 by omega), decide_eq_false q, decide_eq_true q2]; exact ⟨rfl, rfl⟩
      · rw [decide_eq_false (show ¬ l < k + 1 by omega), decide_eq_false q, decide_eq_false q2]; exact ⟨rfl, rfl⟩
theorem wanB_s (A : Ab) (x : llMem) (k : Nat) : wanB A x (k + 1) = wanB A x k + ((List.range A.nc).filter (fun c => rs x c && lvIs A k c)).length := by
  unfold wanB
  refine filt_add _ (fun c _ => ?_)
  obtain ⟨h1, h2⟩ := lvLt_s A k c
  rw [h1]
  revert h2
  cases rs x c <;> cases lvLt A k c <;> cases lvIs A k c <;> simp
theorem rs_cases {A : Ab} {x m : llMem} {mc : Nat} {ml : Nat → Nat × Nat} (hs : ISea A x m mc ml) {c : Nat} (hc : c < A.nc) : (rs x c = false ∧ x.1 18 c = 0) ∨ (rs x c = true ∧ x.1 18 c = 1) := by
  rcases (hs.1 c hc).2.1 with e | e
  · exact Or.inl ⟨decide_eq_false (by rw [e]; decide), e⟩
  · exact Or.inr ⟨decide_eq_true e, e⟩
theorem wantingOf_x {A : Ab} {x m u : llMem} {mc : Nat} {ml : Nat → Nat × Nat} (hp : IPyr A x m) (hs : ISea A x m mc ml) (hB : Bas x u) {l : Nat} (hl : l < 4) : fx_X3_wantingOf_63 u (nI l) = some (nI (wanB A x (l + 1))) := by
  have hn := hp.ncB
  have hn2 := hp.nlB
  have hpu := hB.pyr hp
  unfold fx_X3_wantingOf_63
  have lp : loop (fx_X3_wantingOf_63_l4 u (nI l)) llFuel (0, 0) = some (nI (wanB A x (l + 1))) := by
    refine loop_run0 (fun i => (nI ((List.range i).filter (fun c => rs x c && lvLt A (l + 1) c)).length, nI i)) _ A.nc llFuel rfl ?_ ?_ (llF (by omega))
    · intro i hi
      unfold fx_X3_wantingOf_63_l4 fx_X3_wantingOf_63_j54_b4
      dsimp only
      rw [hpu.x35, if_neg (nle2 (by omega) (by omega) hi), gI_nI (by omega) (by decide), rI_n (by omega), (hB 18 (by decide)).1, (plays_c hpu hi).1]
      simp only [Option.bind_some, lt_eq, nI_1, gI_nI (show i < 30 by omega) (show 30 < 2 ^ 31 by decide), rI_n (show i < 2 ^ 31 by omega), (hpu.cl hi).x12]
      rcases rs_cases hs hi with ⟨e1, e2⟩ | ⟨e1, e2⟩
      · rw [if_pos e2, filt_f (by rw [e1, Bool.false_and])]
      · rw [if_neg (by rw [e2]; decide)]
        cases e3 : A.st i with
        | none => simp only [Option.isSome_none, Bool.false_eq_true, if_false, if_true]; rw [filt_f (by unfold lvLt; rw [e3, Bool.and_false])]
        | some y =>
          obtain ⟨k, d⟩ := y
          have hk := ((hp.cl hi).stB k d e3).1
          simp only [Option.isSome_some, if_true]
          rw [if_neg one_ne, (lvI_some e3).1]
          by_cases q : l < k
          · rw [if_pos (lt2 (by omega) (by omega) q), filt_f (by unfold lvLt; rw [e3]; dsimp only; rw [decide_eq_false (show ¬ k < l + 1 by omega), Bool.and_false])]
          · rw [if_neg (nlt2 (by omega) (by omega) (by omega)), filt_t (by unfold lvLt; rw [e1, e3]; dsimp only; rw [decide_eq_true (show k < l + 1 by omega)]; rfl), List.length_append, List.length_singleton]
    · unfold fx_X3_wantingOf_63_l4
      dsimp only
      rw [hpu.x35, if_pos (le2 (by omega) (by omega) (Nat.le_refl _))]
      rfl
  rw [lp]; rfl
theorem laysWanting_m {A : Ab} {x m u : llMem} {mc : Nat} {ml : Nat → Nat × Nat} (hp : IPyr A x u) (hs : ISea A x u mc ml) : ∃ u', fx_X12_laysWanting_69 u = some (u', ()) ∧ Sm [98] u u' ∧ ∀ l, l < A.nl → u'.1 98 l = nI (wanB A x (l + 1)) := by
  have hn := hp.ncB
  have hn2 := hp.nlB
  obtain ⟨e, e1, e2, e3⟩ := loop_inv (body := fx_X12_laysWanting_69_l4) (fun i s => s.2 = (nI (wanB A x i), nI i) ∧ Sm [98] u s.1 ∧ ∀ l, l < i → s.1.1 98 l = nI (wanB A x (l + 1))) (fun e => Sm [98] u e ∧ ∀ l, l < A.nl → e.1 98 l = nI (wanB A x (l + 1))) A.nl llFuel (u, 0, 0) ⟨by
      have : wanB A x 0 = 0 := by
        unfold wanB
        rw [List.filter_eq_nil_iff.mpr, List.length_nil]
        intro c _
        unfold lvLt
        cases A.st c with
        | none => simp
        | some y => simp
      rw [this]; rfl, Sm.refl _ _, fun l hl => by omega⟩ (by
      rintro i ⟨s, v⟩ hi ⟨hv, f1, f2⟩
      dsimp only at hv f1 f2
      subst hv
      have ps := hp.smM f1 (fun c hc => by simp at hc; omega)
      have ss := hs.smM f1 (fun c hc => by simp at hc; omega)
      have inn : loop (fx_X12_laysWanting_69_l14_b4 s (nI i)) llFuel (nI (wanB A x i), 0) = some (nI (wanB A x (i + 1))) := by
        rw [wanB_s]
        refine loop_run0 (fun j => (nI (wanB A x i + ((List.range j).filter (fun c => rs x c && lvIs A i c)).length), nI j)) _ A.nc llFuel rfl ?_ ?_ (llF (by omega))
        · intro j hj
          unfold fx_X12_laysWanting_69_l14_b4 fx_X12_laysWanting_69_j50_b14_b4 fx_X12_laysWanting_69_j51_b14_b4
          dsimp only
          rw [ps.m9, if_neg (nle2 (by omega) (by omega) hj), show (30 : Int32) + nI j = nI (30 + j) from nI_add 30 j, gI_nI (by omega) (by decide), gI_nI (by omega) (by decide), rI_n (by omega), rI_n (by omega), (ps.cl hj).m74, (ss.1 j hj).2.2.2.2.2.1]
          simp only [one_0, one_1, Option.bind_some, lt_eq, nI_1, i32_add_zero]
          rw [ite_lv ps hj (by omega)]
          by_cases q : (A.st j).map Prod.fst = some i
          · rw [if_pos q]
            have ql : lvIs A i j = true := decide_eq_true q
            rcases rs_cases hs hj with ⟨g1, g2⟩ | ⟨g1, g2⟩
            · rw [if_pos (by rw [g2]; decide), filt_f (by rw [g1, Bool.false_and])]
            · rw [if_neg (fun z => z g2), filt_t (by rw [g1, ql]; rfl), List.length_append, List.length_singleton, Nat.add_assoc]
          · rw [if_neg q, filt_f (by unfold lvIs; rw [decide_eq_false q, Bool.and_false])]
        · unfold fx_X12_laysWanting_69_l14_b4
          dsimp only
          rw [ps.m9, if_pos (le2 (by omega) (by omega) (Nat.le_refl _))]
      unfold fx_X12_laysWanting_69_l4
      dsimp only
      rw [ps.m1, if_neg (nle2 (by omega) (by omega) hi), inn, Option.bind_some, gI_nI (by omega) (by decide), nI_clamp (by omega), lt_eq, lt_eq, nI_1]
      refine ⟨_, rfl, rfl, f1.trans (Sm.SI (by simp)), fun l hl => ?_⟩
      rw [SI_same]
      by_cases q : l = i
      · rw [q, upd_same]
      · rw [upd_ne q]; exact f2 l (by omega)) (by
      rintro ⟨s, v⟩ ⟨hv, f1, f2⟩
      dsimp only at hv f1 f2
      subst hv
      have ps := hp.smM f1 (fun c hc => by simp at hc; omega)
      unfold fx_X12_laysWanting_69_l4
      dsimp only
      rw [ps.m1, if_pos (le2 (by omega) (by omega) (Nat.le_refl _))]
      exact ⟨_, rfl, f1, f2⟩) (llF (by omega))
  unfold fx_X12_laysWanting_69
  rw [e1]
  exact ⟨e, rfl, e2, e3⟩
theorem mayRise_x {A : Ab} {x m u : llMem} {mc : Nat} {ml : Nat → Nat × Nat} (hp : IPyr A x m) (hs : ISea A x m mc ml) (hB : Bas x u) {c : Nat} (hc : c < A.nc) : fx_X3_mayRise_63 u (nI c) = some (b01 (mayB A x c)) := by
  have hn := hp.ncB
  have hn2 := hp.nlB
  have hpu := hB.pyr hp
  unfold fx_X3_mayRise_63
  simp only [gI_nI (show c < 30 by omega) (show 30 < 2 ^ 31 by decide), rI_n (show c < 2 ^ 31 by omega), (hpu.cl hc).x12, lt_eq, gB_0, gB_1]
  rw [(hB 18 (by decide)).1, (hB 19 (by decide)).1, (hB 11 (by decide)).1]
  unfold mayB
  cases e : A.st c with
  | none =>
    rw [if_pos (Int32.le_of_lt (lvI_none e).2.1)]; rfl
  | some y =>
    obtain ⟨l, d⟩ := y
    have hl := ((hp.cl hc).stB l d e).1
    rw [(lvI_some e).1]
    dsimp only
    by_cases e0 : 0 < l
    · rw [if_neg (nI_nle e0 (by omega)), pk_m1' e0, gI_nI (by omega) (by decide), rI_n (by omega), (hpu.lv (show l - 1 < A.nl by omega)).2.2.2.1]
      by_cases e1 : x.1 18 c = 0
      · rw [if_neg (fun z => z e1)]
        by_cases e2 : x.1 19 c = 0
        · rw [if_neg (fun z => z e2)]
          by_cases e3 : x.1 11 c < nI (A.nd (l - 1))
          · rw [if_pos e3, decide_eq_false (fun z => z.2.2.2 e3)]; rfl
          · rw [if_neg e3, decide_eq_true ⟨e0, e1, e2, e3⟩]; rfl
        · rw [if_pos e2, decide_eq_false (fun z => e2 z.2.2.1)]; rfl
      · rw [if_pos e1, decide_eq_false (fun z => e1 z.2.1)]; rfl
    · rw [if_pos (by rw [show l = 0 by omega]; decide), decide_eq_false (fun z => e0 z.1)]; rfl
theorem may_m {A : Ab} {x m : llMem} {mc : Nat} {ml : Nat → Nat × Nat} (hp : IPyr A x m) (hs : ISea A x m mc ml) {c : Nat} (hc : c < A.nc) : fx_X12_may_69 m (nI c) = some (b01 (mayB A x c)) := by
  have hn := hp.ncB
  have hn2 := hp.nlB
  have w := hs.1 c hc
  unfold fx_X12_may_69
  rw [show (30 : Int32) + nI c = nI (30 + c) from nI_add 30 c, show (60 : Int32) + nI c = nI (60 + c) from nI_add 60 c, show (0 : Int32) + nI c = nI c from (nI_add 0 c).trans (by rw [Nat.zero_add])]
  simp only [gI_nI (show c < 60 by omega) (show 60 < 2 ^ 31 by decide), gI_nI (show c < 1020 by omega) (show 1020 < 2 ^ 31 by decide), gI_nI (show 30 + c < 1020 by omega) (show 1020 < 2 ^ 31 by decide), gI_nI (show 60 + c < 1020 by omega) (show 1020 < 2 ^ 31 by decide), rI_n (show c < 2 ^ 31 by omega), rI_n (show 30 + c < 2 ^ 31 by omega), rI_n (show 60 + c < 2 ^ 31 by omega), (hp.cl hc).m74, w.2.2.2.2.1, w.2.2.2.2.2.1, w.2.2.2.2.2.2.1, gB_0, gB_1]
  unfold mayB
  cases e : A.st c with
  | none =>
    rw [if_pos (Int32.le_of_lt (lvI_none e).2.1)]; rfl
  | some y =>
    obtain ⟨l, d⟩ := y
    have hl := ((hp.cl hc).stB l d e).1
    rw [(lvI_some e).1]
    dsimp only
    by_cases e0 : 0 < l
    · have i4 : (4 : Int32) * nI (l - 1) + 3 = nI (4 * (l - 1) + 3) := ix4 (l - 1) 3
      rw [if_neg (nI_nle e0 (by omega)), pk_m1' e0, i4, gI_nI (by omega) (by decide), rI_n (by omega), (hp.lv (show l - 1 < A.nl by omega)).2.2.2.2.2.2.2.1]
      by_cases e1 : x.1 18 c = 0
      · rw [if_neg (fun z => z e1)]
        by_cases e2 : x.1 19 c = 0
        · rw [if_neg (fun z => z e2)]
          by_cases e3 : x.1 11 c < nI (A.nd (l - 1))
          · rw [if_pos e3, decide_eq_false (fun z => z.2.2.2 e3)]; rfl
          · rw [if_neg e3, decide_eq_true ⟨e0, e1, e2, e3⟩]; rfl
        · rw [if_pos e2, decide_eq_false (fun z => e2 z.2.2.1)]; rfl
      · rw [if_pos e1, decide_eq_false (fun z => e1 z.2.1)]; rfl
    · rw [if_pos (by rw [show l = 0 by omega]; decide), decide_eq_false (fun z => e0 z.1)]; rfl
theorem mayRiseFrom_x {A : Ab} {x m u : llMem} {mc : Nat} {ml : Nat → Nat × Nat} (hp : IPyr A x m) (hs : ISea A x m mc ml) (hB : Bas x u) {l : Nat} (hl : l < 999) : fx_X3_mayRiseFrom_63 u (nI l) = some (nI (mayN A x l)) := by
  have hn := hp.ncB
  have hpu := hB.pyr hp
  unfold fx_X3_mayRiseFrom_63
  have lp : loop (fx_X3_mayRiseFrom_63_l4 u (nI l)) llFuel (0, 0) = some (nI (mayN A x l)) := by
    refine loop_run0 (fun i => (nI ((List.range i).filter (fun c => lvIs A l c && mayB A x c)).length, nI i)) _ A.nc llFuel rfl ?_ ?_ (llF (by omega))
    · intro i hi
      unfold fx_X3_mayRiseFrom_63_l4 fx_X3_mayRiseFrom_63_j39_b4
      dsimp only
      rw [hpu.x35, if_neg (nle2 (by omega) (by omega) hi), gI_nI (by omega) (by decide), rI_n (by omega), (hpu.cl hi).x12, mayRise_x hp hs hB hi, ite_lv hp hi (by omega)]
      simp only [Option.bind_some, lt_eq, nI_1]
      by_cases q : (A.st i).map Prod.fst = some l
      · have ql : lvIs A l i = true := decide_eq_true q
        rw [if_pos q]
        cases e : mayB A x i
        · rw [b01_f, if_pos rfl, filt_f (by rw [e, Bool.and_false])]
        · rw [b01_t, if_neg one_ne, filt_t (by rw [e, ql]; rfl), List.length_append, List.length_singleton]
      · rw [if_neg q, filt_f (by unfold lvIs; rw [decide_eq_false q, Bool.false_and])]
    · unfold fx_X3_mayRiseFrom_63_l4
      dsimp only
      rw [hpu.x35, if_pos (le2 (by omega) (by omega) (Nat.le_refl _))]
      rfl
  rw [lp]; rfl
theorem mayFrom_m {A : Ab} {x m : llMem} {mc : Nat} {ml : Nat → Nat × Nat} (hp : IPyr A x m) (hs : ISea A x m mc ml) {l : Nat} (hl : l < 999) : fx_X12_mayFrom_69 m (nI l) = some (nI (mayN A x l)) := by
  have hn := hp.ncB
  unfold fx_X12_mayFrom_69
  have lp : loop (fx_X12_mayFrom_69_l4 m (nI l)) llFuel (0, 0) = some (nI (mayN A x l)) := by
    refine loop_run0 (fun i => (nI ((List.range i).filter (fun c => lvIs A l c && mayB A x c)).length, nI i)) _ A.nc llFuel rfl ?_ ?_ (llF (by omega))
    · intro i hi
      unfold fx_X12_mayFrom_69_l4 fx_X12_mayFrom_69_j35_b4 fx_X12_mayFrom_69_j36_b4
      dsimp only
      rw [hp.m9, if_neg (nle2 (by omega) (by omega) hi), gI_nI (by omega) (by decide), rI_n (by omega), (hp.cl hi).m74, may_m hp hs hi, ite_lv hp hi (by omega)]
      simp only [one_0, one_1, Option.bind_some, lt_eq, nI_1, i32_add_zero]
      by_cases q : (A.st i).map Prod.fst = some l
      · have ql : lvIs A l i = true := decide_eq_true q
        rw [if_pos q]
        cases e : mayB A x i
        · rw [b01_f, if_pos rfl, filt_f (by rw [e, Bool.and_false])]
        · rw [b01_t, if_neg one_ne, filt_t (by rw [e, ql]; rfl), List.length_append, List.length_singleton]
      · rw [if_neg q, filt_f (by unfold lvIs; rw [decide_eq_false q, Bool.false_and])]
    · unfold fx_X12_mayFrom_69_l4
      dsimp only
      rw [hp.m9, if_pos (le2 (by omega) (by omega) (Nat.le_refl _))]
      rfl
  rw [lp]; rfl
