/-! middle, strangers, swap -/
def StepQ {α : Type} (F : llMem → Option (llMem × α)) (G : llMem → Option α) : Prop := ∀ x m, Inv x m → ∃ x' r, F x = some (x', r) ∧ G m = some r ∧ QX x x'
theorem ix3 (a b : Nat) : nI a * 3 + nI b = nI (3 * a + b) := by rw [show (3 : Int32) = nI 3 from rfl, pk_mul, nI_add, Nat.mul_comm]
def Sur (A : Ab) (x x' : llMem) (l : Nat) : Prop := Sm [48, 50, 51] x x' ∧ x'.1 48 2 = nI (rowOf A l).length ∧ (∀ i, i < (rowOf A l).length → x'.1 50 i = nI ((rowOf A l).getD i 0)) ∧ ∀ j, j < 3 * (rowOf A l).length → x'.1 51 j = nI (miT A l (j % 3) ((rowOf A l).getD (j / 3) 0))
theorem survey_x {A : Ab} {x m : llMem} (h : IPyr A x m) {l : Nat} (hl : l < A.nl) : ∃ x', fx_X10_survey_48 x (nI l) = some (x', ()) ∧ Sur A x x' l := by
  have hn := h.ncB
  have hn2 := h.nlB
  have h12 := row_12 h hl
  obtain ⟨x1, g1, g2, g3⟩ := gather_50 h hl
  unfold fx_X10_survey_48
  rw [g1, bd_mk, lt_eq]
  generalize hx2 : llSI x1 48 2 (nI (rowOf A l).length) = x2
  have s2 : Sm [48, 50, 51] x x2 := by
    rw [← hx2]
    exact (g2.mono (fun c hc => by simp at hc ⊢; omega)).trans (Sm.SI (by simp))
  have c2 : x2.1 48 2 = nI (rowOf A l).length := by rw [← hx2, SI_same, upd_same]
  have c50 : ∀ i, i < (rowOf A l).length → x2.1 50 i = nI ((rowOf A l).getD i 0) := fun i hi => by rw [← hx2, SI_ne (by decide)]; exact g3 i hi
  clear hx2
  have inner : ∀ (i : Nat) (u : llMem), i < (rowOf A l).length → Sm [48, 50, 51] x u → u.1 48 2 = nI (rowOf A l).length → (∀ i, i < (rowOf A l).length → u.1 50 i = nI ((rowOf A l).getD i 0)) → (∀ j, j < 3 * i → u.1 51 j = nI (miT A l (j % 3) ((rowOf A l).getD (j / 3) 0))) → ∃ e, loop (fx_X10_survey_48_l28_b18 (nI l) (nI i)) llFuel (u, 0) = some e ∧ (Sm [48, 50, 51] x e ∧ e.1 48 2 = nI (rowOf A l).length ∧ (∀ i, i < (rowOf A l).length → e.1 50 i = nI ((rowOf A l).getD i 0)) ∧ ∀ j, j < 3 * (i + 1) → e.1 51 j = nI (miT A l (j % 3) ((rowOf A l).getD (j / 3) 0))) := by
    intro i u hi f1 f2 f3 f4
    obtain ⟨dd, r1, r2, r3⟩ := row_st h hi
    refine loop_inv (fun d s => s.2 = nI d ∧ Sm [48, 50, 51] x s.1 ∧ s.1.1 48 2 = nI (rowOf A l).length ∧ (∀ i, i < (rowOf A l).length → s.1.1 50 i = nI ((rowOf A l).getD i 0)) ∧ ∀ j, j < 3 * i + d → s.1.1 51 j = nI (miT A l (j % 3) ((rowOf A l).getD (j / 3) 0))) _ 3 llFuel (u, 0) ⟨rfl, f1, f2, f3, f4⟩ ?_ ?_ (llF (by omega))
    · rintro d ⟨s, v⟩ hd ⟨hv, k1, k2, k3, k4⟩
      dsimp only at hv k1 k2 k3 k4
      subst hv
      have hs : IPyr A s m := h.sm k1 (fun c hc => by simp at hc; omega)
      unfold fx_X10_survey_48_l28_b18
      dsimp only
      rw [if_neg (Lnle 3 (by omega) (by decide) hd), gI_nI (by omega) (by decide), rI_n (by omega), k3 i hi, toDivision_x hs r1 (by omega) (by omega), Option.bind_some, ix3, gI_nI (by omega) (by decide), nI_clamp (by omega)]
      simp only [lt_eq, nI_1]
      refine ⟨_, rfl, rfl, k1.trans (Sm.SI (by simp)), ?_, fun j hj => ?_, fun j hj => ?_⟩
      · rw [SI_ne (by decide)]; exact k2
      · rw [SI_ne (by decide)]; exact k3 j hj
      · rw [SI_same]
        by_cases e : j = 3 * i + d
        · subst e
          rw [upd_same, show (3 * i + d) % 3 = d by omega, show (3 * i + d) / 3 = i by omega]
        · rw [upd_ne e]; exact k4 j (by omega)
    · rintro ⟨s, v⟩ ⟨hv, k1, k2, k3, k4⟩
      dsimp only at hv k1 k2 k3 k4
      subst hv
      unfold fx_X10_survey_48_l28_b18
      dsimp only
      rw [if_pos (Lle 3 (by decide) (by decide) (Nat.le_refl _))]
      exact ⟨_, rfl, k1, k2, k3, k4⟩
  have outer : ∃ e, loop (fx_X10_survey_48_l18 (nI l)) llFuel (x2, 0) = some e ∧ Sur A x e l := by
    refine loop_inv (fun i s => s.2 = nI i ∧ Sm [48, 50, 51] x s.1 ∧ s.1.1 48 2 = nI (rowOf A l).length ∧ (∀ i, i < (rowOf A l).length → s.1.1 50 i = nI ((rowOf A l).getD i 0)) ∧ ∀ j, j < 3 * i → s.1.1 51 j = nI (miT A l (j % 3) ((rowOf A l).getD (j / 3) 0))) _ (rowOf A l).length llFuel (x2, 0) ⟨rfl, s2, c2, c50, fun j hj => by omega⟩ ?_ ?_ (llF (by omega))
    · rintro i ⟨s, v⟩ hi ⟨hv, k1, k2, k3, k4⟩
      dsimp only at hv k1 k2 k3 k4
      subst hv
      obtain ⟨e, e1, e2, e3, e4, e5⟩ := inner i s hi k1 k2 k3 k4
      unfold fx_X10_survey_48_l18
      dsimp only
      rw [k2, if_neg (nle2 (by omega) (by omega) hi), e1, Option.bind_some]
      simp only [lt_eq, nI_1]
      exact ⟨_, rfl, rfl, e2, e3, e4, e5⟩
    · rintro ⟨s, v⟩ ⟨hv, k1, k2, k3, k4⟩
      dsimp only at hv k1 k2 k3 k4
      subst hv
      unfold fx_X10_survey_48_l18
      dsimp only
      rw [k2, if_pos (le2 (by omega) (by omega) (Nat.le_refl _))]
      exact ⟨_, rfl, k1, k2, k3, k4⟩
  obtain ⟨e, e1, e2⟩ := outer
  rw [e1]
  exact ⟨e, rfl, e2⟩
theorem Sur.q {A : Ab} {x x' : llMem} {l : Nat} (h : Sur A x x' l) : QX x x' := QX.sm h.1 (fun c hc => by simp at hc; omega)
theorem farFrom_x {A : Ab} {x x' : llMem} {l : Nat} (h : Sur A x x' l) (h12 : (rowOf A l).length ≤ 12) {i d : Nat} (hi : i < (rowOf A l).length) (hd : d < 3) : fx_X10_farFrom_48 x' (nI i) (nI d) = some (nI (miT A l d ((rowOf A l).getD i 0))) := by
  unfold fx_X10_farFrom_48
  rw [ix3, gI_nI (by omega) (by decide), rI_n (by omega), h.2.2.2 _ (by omega), show (3 * i + d) % 3 = d by omega, show (3 * i + d) / 3 = i by omega]
theorem divisionOf_x {A : Ab} {x x' m : llMem} {l : Nat} (hp : IPyr A x m) (h : Sur A x x' l) (h12 : (rowOf A l).length ≤ 12) {i d : Nat} (hi : i < (rowOf A l).length) (hs : A.st ((rowOf A l).getD i 0) = some (l, d)) : fx_X10_divisionOf_48 x' (nI i) = some (nI d) := by
  have hn := hp.ncB
  have hc := (row_mem.mp (getD_in hi)).1
  unfold fx_X10_divisionOf_48
  rw [gI_nI (by omega) (by decide), rI_n (by omega), h.2.2.1 i hi, gI_nI (by omega) (by decide), rI_n (by omega), (h.1 13 (by decide)).1, (hp.cl hc).x13, (lvI_some hs).2]
/-- the first of the least, along a list -/
def stp (w : Nat → Nat) (o : Option Nat) (c : Nat) : Option Nat := match o with
  | none => some c
  | some b => if w c < w b then some c else some b
theorem nrB_foldl (P : Nat → Bool) (w : Nat → Nat) : ∀ n, nrB P w n = ((List.range n).filter P).foldl (stp w) none
  | 0 => rfl
  | n + 1 => by
    rw [List.range_succ, List.filter_append, List.foldl_append, ← nrB_foldl P w n]
    cases e : P n
    · rw [List.filter_cons_of_neg (by rw [e]; decide), nrB_f e]; rfl
    · rw [List.filter_cons_of_pos e]
      cases q : nrB P w n with
      | none => rw [nrB_tn e q]; rfl
      | some b => rw [nrB_ts e q]; rfl
theorem stp_mem {w : Nat → Nat} : ∀ (L : List Nat) (o : Option Nat) {b : Nat}, L.foldl (stp w) o = some b → b ∈ L ∨ o = some b
  | [], o, b, h => Or.inr h
  | c :: L, o, b, h => by
    rcases stp_mem L (stp w o c) h with q | q
    · exact Or.inl (List.mem_cons_of_mem _ q)
    · cases o with
      | none => simp only [stp, Option.some.injEq] at q; subst q; exact Or.inl (List.mem_cons_self ..)
      | some a =>
        unfold stp at q
        dsimp only at q
        by_cases e : w c < w a
        · rw [if_pos e, Option.some.injEq] at q; subst q; exact Or.inl (List.mem_cons_self ..)
        · rw [if_neg e] at q; exact Or.inr q
theorem sumN_tail {f : Nat → Nat} {n : Nat} : ∀ (N : Nat), n ≤ N → (∀ i, n ≤ i → i < N → f i = 0) → sumN f N = sumN f n
  | 0, h, _ => by rw [show n = 0 by omega]
  | N + 1, h, hz => by
    by_cases e : n = N + 1
    · rw [e]
    · simp only [sumN]
      rw [sumN_tail N (by omega) (fun i h1 h2 => hz i h1 (by omega)), hz N (by omega) (by omega), Nat.add_zero]
theorem miT_0 {A : Ab} {x m : llMem} (h : IPyr A x m) {l d : Nat} (hd : A.dv l ≤ d) (c : Nat) : miT A l d c = 0 := by
  unfold miT
  rw [sumN_congr (g := fun _ => 0) A.nc (fun o ho => by
    rw [if_neg]
    intro e
    have := ((h.cl ho).stB l d e).2
    omega), sumN_zero]
def miA (A : Ab) (l c : Nat) : Nat := sumN (fun d => miT A l d c) (A.dv l)
theorem miA_3 {A : Ab} {x m : llMem} (h : IPyr A x m) {l : Nat} (hl : l < A.nl) (c : Nat) : sumN (fun d => miT A l d c) 3 = miA A l c := sumN_tail 3 ((h.lv hl).2.2.2.2.2.2.2.2.2.1) (fun i h1 _ => miT_0 h h1 c)
theorem miA_le {A : Ab} {x m : llMem} (h : IPyr A x m) {l : Nat} (hl : l < A.nl) {c : Nat} (hc : c < A.nc) : miA A l c ≤ 12600 := by
  have := sumN_le' (f := fun d => miT A l d c) (s := 4200) (A.dv l) (fun d _ => miT_le h hc l d)
  have := (h.lv hl).2.2.2.2.2.2.2.2.2.1
  unfold miA
  have : A.dv l * 4200 ≤ 3 * 4200 := Nat.mul_le_mul_right _ this
  omega
theorem milesAll_m {A : Ab} {x m : llMem} (h : IPyr A x m) {c l d : Nat} (hc : c < A.nc) (hs : A.st c = some (l, d)) : fx_X12_milesAll_69 m (nI c) = some (nI (miA A l c)) := by
  have hn := h.ncB
  have hn2 := h.nlB
  have hl := ((h.cl hc).stB l d hs).1
  have hd3 := (h.lv hl).2.2.2.2.2.2.2.2.2.1
  have i4 : (4 : Int32) * nI l + 0 = nI (4 * l) := by rw [show (0 : Int32) = nI 0 from rfl, ix4, Nat.add_zero]
  unfold fx_X12_milesAll_69
  rw [loop_sumN (fun d => miT A l d c) (A.dv l) ?_ ?_ (llF (by omega))]
  · rfl
  · intro i a hi
    unfold fx_X12_milesAll_69_l4
    dsimp only
    rw [gI_nI (by omega) (by decide), rI_n (by omega), (h.cl hc).m74, (lvI_some hs).1, i4, gI_nI (by omega) (by decide), rI_n (by omega), (h.lv hl).2.2.2.2.1, if_neg (nle2 (by omega) (by omega) hi), gI_nI (by omega) (by decide), milesIn_m h hc (by omega) (by omega)]
    simp only [Option.bind_some, lt_eq, nI_1, nI_add]
  · intro a
    unfold fx_X12_milesAll_69_l4
    dsimp only
    rw [gI_nI (by omega) (by decide), rI_n (by omega), (h.cl hc).m74, (lvI_some hs).1, i4, gI_nI (by omega) (by decide), rI_n (by omega), (h.lv hl).2.2.2.2.1, if_pos (le2 (by omega) (by omega) (Nat.le_refl _))]
theorem lv_some {A : Ab} {c l : Nat} (h : (A.st c).map Prod.fst = some l) : ∃ d, A.st c = some (l, d) := by
  cases hs : A.st c with
  | none => rw [hs] at h; cases h
  | some y =>
    obtain ⟨a, d⟩ := y
    rw [hs] at h
    have e : a = l := by simpa using h
    subst e
    exact ⟨d, rfl⟩
theorem middle_S (a : Int32) : StepQ (fun u => fx_X11_middle_0 u a) (fun u => fx_X12_middle_69 u a) := by
  rintro x m ⟨A, mc, ml, k, cj, h⟩
  have hp := h.1
  have hn := hp.ncB
  have hn2 := hp.nlB
  dsimp only
  unfold fx_X11_middle_0 fx_X12_middle_69
  rcases hasLevel_B hp a with ⟨l, hl, rfl, p1, p2⟩ | ⟨p1, p2⟩
  · have h12 := row_12 hp hl
    obtain ⟨x1, g1, g2⟩ := survey_x hp hl
    have F1 : ∀ i, i < (rowOf A l).length → ((rowOf A l).take (i + 1)).foldl (stp (miA A l)) none = stp (miA A l) (((rowOf A l).take i).foldl (stp (miA A l)) none) ((rowOf A l).getD i 0) := fun i hi => by
      rw [take_s hi, List.foldl_append]; rfl
    have k1 : loop (fx_X10_midmost_48_l13 x1) llFuel (-1, 2147483647, 0) = some (bI ((rowOf A l).foldl (stp (miA A l)) none)) := by
      have e0 : (rowOf A l).take (rowOf A l).length = rowOf A l := List.take_length
      refine loop_run0 (fun i => (bI (((rowOf A l).take i).foldl (stp (miA A l)) none), wI (miA A l) (((rowOf A l).take i).foldl (stp (miA A l)) none), nI i)) _ (rowOf A l).length llFuel rfl ?_ ?_ (llF (by omega))
      · intro i hi
        obtain ⟨dd, r1, r2, r3⟩ := row_st hp hi
        have bnd := miA_le hp hl r1
        have inn : ∀ v3 v4, loop (fx_X10_midmost_48_l28_b13 x1 v3 v4 (nI i)) llFuel (0, 0) = some (nI (miA A l ((rowOf A l).getD i 0))) := by
          intro v3 v4
          rw [← miA_3 hp hl]
          refine loop_sumN (fun d => miT A l d ((rowOf A l).getD i 0)) 3 ?_ ?_ (llF (by omega))
          · intro d s hd
            unfold fx_X10_midmost_48_l28_b13
            dsimp only
            rw [if_neg (Lnle 3 (by omega) (by decide) hd), farFrom_x g2 h12 hi hd]
            simp only [Option.bind_some, lt_eq, nI_1, nI_add]
          · intro s
            unfold fx_X10_midmost_48_l28_b13
            dsimp only
            rw [if_pos (Lle 3 (by decide) (by decide) (Nat.le_refl _))]
        unfold fx_X10_midmost_48_l13 fx_X10_midmost_48_j70_b13
        dsimp only
        rw [g2.2.1, if_neg (nle2 (by omega) (by omega) hi), inn, Option.bind_some, gI_nI (by omega) (by decide), rI_n (by omega), g2.2.2.1 i hi]
        simp only [lt_eq, nI_1]
        rw [F1 i hi]
        cases q : ((rowOf A l).take i).foldl (stp (miA A l)) none with
        | none =>
          unfold wI bI stp
          dsimp only
          rw [if_neg]
          rw [show (2147483647 : Int32) = nI 2147483647 from rfl]
          exact nle2 (by decide) (by omega) (by omega)
        | some b =>
          have hb : b < A.nc := by
            rcases stp_mem _ _ q with q1 | q1
            · exact (row_mem.mp (List.mem_of_mem_take q1)).1
            · cases q1
          have bnd2 := miA_le hp hl hb
          unfold wI bI stp
          dsimp only
          by_cases e2 : miA A l ((rowOf A l).getD i 0) < miA A l b
          · rw [if_neg (nle2 (by omega) (by omega) e2), if_pos e2]
          · rw [if_pos (le2 (by omega) (by omega) (by omega)), if_neg e2]
      · unfold fx_X10_midmost_48_l13
        dsimp only
        rw [g2.2.1, if_pos (le2 (by omega) (by omega) (Nat.le_refl _)), e0]
    have k2 : loop (fx_X12_middle_69_l14 m (nI l)) llFuel (-1, 0) = some (bI (nrB (fun c => decide ((A.st c).map Prod.fst = some l)) (miA A l) A.nc)) := by
      generalize hP : (fun c => decide ((A.st c).map Prod.fst = some l)) = P
      have P0 : ∀ i, P i = decide ((A.st i).map Prod.fst = some l) := fun i => by rw [← hP]
      refine loop_run0 (fun i => (bI (nrB P (miA A l) i), nI i)) _ A.nc llFuel rfl ?_ ?_ (llF (by omega))
      · intro i hi
        unfold fx_X12_middle_69_l14 fx_X12_middle_69_j50_b14 fx_X12_middle_69_j52_b14
        dsimp only
        rw [hp.m9, if_neg (nle2 (by omega) (by omega) hi), gI_nI (by omega) (by decide), rI_n (by omega), (hp.cl hi).m74, ite_lv hp hi (by omega)]
        simp only [lt_eq, nI_1]
        by_cases e1 : (A.st i).map Prod.fst = some l
        · have pt : P i = true := by rw [P0]; exact decide_eq_true e1
          obtain ⟨dd, e1'⟩ := lv_some e1
          have bnd := miA_le hp hl hi
          rw [if_pos e1]
          cases q : nrB P (miA A l) i with
          | none =>
            rw [nrB_tn pt q]
            unfold bI
            dsimp only
            rw [if_pos rfl]
          | some b =>
            obtain ⟨hb, hb2⟩ := nrB_some i q
            have hbn : b < A.nc := by omega
            have bnd2 := miA_le hp hl hbn
            rw [P0, decide_eq_true_eq] at hb2
            obtain ⟨db, hb2⟩ := lv_some hb2
            rw [nrB_ts pt q]
            unfold bI
            dsimp only
            rw [if_neg (nI_nm1 (by omega)), milesAll_m hp hi e1', milesAll_m hp hbn hb2]
            simp only [Option.bind_some]
            by_cases e2 : miA A l i < miA A l b
            · rw [if_neg (nle2 (by omega) (by omega) e2), if_pos e2]
            · rw [if_pos (le2 (by omega) (by omega) (by omega)), if_neg e2]
        · rw [if_neg e1, nrB_f (by rw [P0]; exact decide_eq_false e1)]
      · unfold fx_X12_middle_69_l14
        dsimp only
        rw [hp.m9, if_pos (le2 (by omega) (by omega) (Nat.le_refl _))]
    rw [nrB_foldl] at k2
    rw [p1, p2, Option.bind_some, Option.bind_some, if_neg one_ne, if_pos one_ne]
    unfold fx_X10_midmost_48
    rw [g1, bd_mk, k1, k2]
    exact ⟨x1, _, rfl, rfl, g2.q⟩
  · rw [p1, p2]; exact ⟨x, _, rfl, rfl, QX.refl x⟩
/-! strangers -/
def anyB (p : Nat → Bool) : Nat → Bool
  | 0 => false
  | n + 1 => anyB p n || p n
def dvN (A : Ab) (c : Nat) : Nat := match A.st c with
  | some (_, d) => d
  | none => 0
def strg (A : Ab) (l c : Nat) : Bool := anyB (fun d => decide (miT A l d c < miT A l (dvN A c) c)) (A.dv l)
def bit (c : Nat) : Int32 := 1 <<< (nI c &&& 31)
theorem or_or (s b : Int32) : (s ||| b) ||| b = s ||| b := by rw [Int32.or_assoc, Int32.or_self]
theorem strangers_S (a : Int32) : StepQ (fun u => fx_X11_strangers_0 u a) (fun u => fx_X12_strangers_69 u a) := by
  rintro x m ⟨A, mc, ml, k, cj, h⟩
  have hp := h.1
  have hn := hp.ncB
  have hn2 := hp.nlB
  dsimp only
  unfold fx_X11_strangers_0 fx_X12_strangers_69
  rcases hasLevel_B hp a with ⟨l, hl, rfl, p1, p2⟩ | ⟨p1, p2⟩
  · have h12 := row_12 hp hl
    have hd3 := (hp.lv hl).2.2.2.2.2.2.2.2.2.1
    have i4 : (4 : Int32) * nI l + 0 = nI (4 * l) := by rw [show (0 : Int32) = nI 0 from rfl, ix4, Nat.add_zero]
    obtain ⟨x1, g1, g2⟩ := survey_x hp hl
    have g4 : x1.1 4 = x.1 4 := (g2.1 4 (by decide)).1
    have F1 : ∀ i, i < (rowOf A l).length → ((rowOf A l).take (i + 1)).foldl (fun s c => if strg A l c then s ||| bit c else s) 0 = (if strg A l ((rowOf A l).getD i 0) then ((rowOf A l).take i).foldl (fun s c => if strg A l c then s ||| bit c else s) 0 ||| bit ((rowOf A l).getD i 0) else ((rowOf A l).take i).foldl (fun s c => if strg A l c then s ||| bit c else s) 0) := fun i hi => by
      rw [take_s hi, List.foldl_append]; rfl
    have k1 : loop (fx_X10_strangersOf_48_l9 x1 (nI l)) llFuel (0, 0) = some ((rowOf A l).foldl (fun s c => if strg A l c then s ||| bit c else s) 0) := by
      have e0 : (rowOf A l).take (rowOf A l).length = rowOf A l := List.take_length
      refine loop_run0 (fun i => (((rowOf A l).take i).foldl (fun s c => if strg A l c then s ||| bit c else s) 0, nI i)) _ (rowOf A l).length llFuel rfl ?_ ?_ (llF (by omega))
      · intro i hi
        obtain ⟨dd, r1, r2, r3⟩ := row_st hp hi
        have dvn : dvN A ((rowOf A l).getD i 0) = dd := by unfold dvN; rw [r2]
        have inn : ∀ s : Int32, loop (fx_X10_strangersOf_48_l20_b9 x1 (nI l) (nI i)) llFuel (s, 0) = some (if strg A l ((rowOf A l).getD i 0) then s ||| bit ((rowOf A l).getD i 0) else s) := by
          intro s
          unfold strg
          rw [dvn]
          refine loop_run0 (fun d => (if anyB (fun d => decide (miT A l d ((rowOf A l).getD i 0) < miT A l dd ((rowOf A l).getD i 0))) d then s ||| bit ((rowOf A l).getD i 0) else s, nI d)) _ (A.dv l) llFuel rfl ?_ ?_ (llF (by omega))
          · intro d hd
            have b1 := miT_le hp r1 l d
            have b2 := miT_le hp r1 l dd
            have st : anyB (fun d => decide (miT A l d ((rowOf A l).getD i 0) < miT A l dd ((rowOf A l).getD i 0))) (d + 1) = (anyB (fun d => decide (miT A l d ((rowOf A l).getD i 0) < miT A l dd ((rowOf A l).getD i 0))) d || decide (miT A l d ((rowOf A l).getD i 0) < miT A l dd ((rowOf A l).getD i 0))) := rfl
            unfold fx_X10_strangersOf_48_l20_b9 fx_X10_strangersOf_48_j65_b20_b9
            dsimp only
            rw [gI_nI (by omega) (by decide), rI_n (by omega), g4, (hp.lv hl).1, if_neg (nle2 (by omega) (by omega) hd), farFrom_x g2 h12 hi (by omega), divisionOf_x hp g2 h12 hi r2, Option.bind_some, Option.bind_some, farFrom_x g2 h12 hi (by omega), Option.bind_some, gI_nI (by omega) (by decide), rI_n (by omega), g2.2.2.1 i hi]
            simp only [lt_eq, nI_1]
            rw [st]
            by_cases e : miT A l d ((rowOf A l).getD i 0) < miT A l dd ((rowOf A l).getD i 0)
            · rw [if_neg (nle2 (by omega) (by omega) e), decide_eq_true e, Bool.or_true, if_pos rfl]
              cases anyB (fun d => decide (miT A l d ((rowOf A l).getD i 0) < miT A l dd ((rowOf A l).getD i 0))) d
              · rfl
              · exact inl_eq (Prod.ext (or_or s _) rfl)
            · rw [if_pos (le2 (by omega) (by omega) (by omega)), decide_eq_false e, Bool.or_false]
          · unfold fx_X10_strangersOf_48_l20_b9
            dsimp only
            rw [gI_nI (by omega) (by decide), rI_n (by omega), g4, (hp.lv hl).1, if_pos (le2 (by omega) (by omega) (Nat.le_refl _))]
        unfold fx_X10_strangersOf_48_l9
        dsimp only
        rw [g2.2.1, if_neg (nle2 (by omega) (by omega) hi), inn, Option.bind_some, F1 i hi]
        simp only [lt_eq, nI_1]
      · unfold fx_X10_strangersOf_48_l9
        dsimp only
        rw [g2.2.1, if_pos (le2 (by omega) (by omega) (Nat.le_refl _)), e0]
    have k2 : loop (fx_X12_strangers_69_l14 m (nI l)) llFuel (0, 0) = some (itr (fun c s => if (decide ((A.st c).map Prod.fst = some l)) then (if strg A l c then s ||| bit c else s) else s) 0 A.nc) := by
      refine loop_for (fun c s => if (decide ((A.st c).map Prod.fst = some l)) then (if strg A l c then s ||| bit c else s) else s) (fun s => s) A.nc 0 ?_ ?_ (llF (by omega))
      · intro i s hi _
        have inn : ∀ s : Int32, loop (fx_X12_strangers_69_l28_b14 m (nI l) s (nI i)) llFuel (0, 0) = some (if ((decide ((A.st i).map Prod.fst = some l)) && strg A l i) then 1 else 0) := by
          intro s
          by_cases e1 : (A.st i).map Prod.fst = some l
          · obtain ⟨dd, e1'⟩ := lv_some e1
            have dvn : dvN A i = dd := by unfold dvN; rw [e1']
            have hdd := ((hp.cl hi).stB l dd e1').2
            rw [decide_eq_true e1, Bool.true_and]
            unfold strg
            rw [dvn]
            refine loop_run0 (fun d => (if anyB (fun d => decide (miT A l d i < miT A l dd i)) d then 1 else 0, nI d)) _ (A.dv l) llFuel rfl ?_ ?_ (llF (by omega))
            · intro d hd
              have b1 := miT_le hp hi l d
              have b2 := miT_le hp hi l dd
              have st : anyB (fun d => decide (miT A l d i < miT A l dd i)) (d + 1) = (anyB (fun d => decide (miT A l d i < miT A l dd i)) d || decide (miT A l d i < miT A l dd i)) := rfl
              unfold fx_X12_strangers_69_l28_b14 fx_X12_strangers_69_j92_b28_b14 fx_X12_strangers_69_j96_b28_b14 fx_X12_strangers_69_j97_b28_b14
              dsimp only
              rw [i4, gI_nI (by omega) (by decide), rI_n (by omega), (hp.lv hl).2.2.2.2.1, if_neg (nle2 (by omega) (by omega) hd), gI_nI (by omega) (by decide), rI_n (by omega), (hp.cl hi).m74, (lvI_some e1').1, if_neg (fun q => q rfl), gI_nI (by omega) (by decide), rI_n (by omega), (hp.cl hi).m75, (lvI_some e1').2, milesIn_m hp hi (by omega) (by omega), milesIn_m hp hi (by omega) (by omega)]
              simp only [Option.bind_some, lt_eq, nI_1, gI_nI (show i < 60 by omega) (show 60 < 2 ^ 31 by decide)]
              rw [st]
              cases anyB (fun d => decide (miT A l d i < miT A l dd i)) d
              · simp only [Bool.false_eq_true, if_false, Bool.false_or]
                rw [if_neg (fun q => q trivial)]
                by_cases e2 : d = dd
                · subst e2
                  rw [if_pos rfl, decide_eq_false (by omega)]; rfl
                · rw [if_neg (fun q => e2 (nI_inj (by omega) (by omega) q))]
                  by_cases e : miT A l d i < miT A l dd i
                  · rw [if_neg (nle2 (by omega) (by omega) e), decide_eq_true e]; rfl
                  · rw [if_pos (le2 (by omega) (by omega) (by omega)), decide_eq_false e]; rfl
              · simp only [if_true, Bool.true_or]
                rw [if_pos one_ne]
            · unfold fx_X12_strangers_69_l28_b14
              dsimp only
              rw [i4, gI_nI (by omega) (by decide), rI_n (by omega), (hp.lv hl).2.2.2.2.1, if_pos (le2 (by omega) (by omega) (Nat.le_refl _))]
          · rw [decide_eq_false e1, Bool.false_and]
            refine loop_run0 (fun _ => (0, 0)) _ 0 llFuel rfl (fun _ q => by omega) ?_ (llF (by omega))
            have hd1 := (hp.lv hl).2.2.2.2.2.2.2.2.1
            unfold fx_X12_strangers_69_l28_b14
            dsimp only
            rw [i4, gI_nI (by omega) (by decide), rI_n (by omega), (hp.lv hl).2.2.2.2.1, if_neg (nI_nle (by omega) (by omega)), gI_nI (by omega) (by decide), rI_n (by omega), (hp.cl hi).m74, if_pos (fun q => e1 ((lvI_eq hp hi (by omega)).mp q))]
            rfl
        unfold fx_X12_strangers_69_l14
        dsimp only
        rw [hp.m9, if_neg (nle2 (by omega) (by omega) hi), inn, Option.bind_some]
        simp only [lt_eq, nI_1]
        cases decide ((A.st i).map Prod.fst = some l)
        · simp only [Bool.false_and, Bool.false_eq_true, if_false, one_0, Option.bind_some]
          rw [Int32.zero_shiftLeft, Int32.or_zero]
        · simp only [Bool.true_and, if_true]
          cases strg A l i
          · simp only [Bool.false_eq_true, if_false, one_0, Option.bind_some]
            rw [Int32.zero_shiftLeft, Int32.or_zero]
          · simp only [if_true, one_1, Option.bind_some]
            rfl
      · intro s _
        unfold fx_X12_strangers_69_l14
        dsimp only
        rw [hp.m9, if_pos (le2 (by omega) (by omega) (Nat.le_refl _))]
    rw [itr_filter (fun c => decide ((A.st c).map Prod.fst = some l)) (fun s c => if strg A l c then s ||| bit c else s)] at k2
    rw [p1, p2, Option.bind_some, Option.bind_some, if_neg one_ne, if_pos one_ne]
    unfold fx_X10_strangersOf_48
    rw [g1, bd_mk, k1, k2]
    exact ⟨x1, _, rfl, rfl, g2.q⟩
  · rw [p1, p2]; exact ⟨x, _, rfl, rfl, QX.refl x⟩
