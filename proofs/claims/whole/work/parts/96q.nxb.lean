/-! the pyramid when a season has closed: divisions -/
def nxG (A : Ab) (x : llMem) (c : Nat) : Bool := A.gone c || rs x c
def nxA (A : Ab) (x : llMem) : Ab := (A.nl, A.nc, A.dv, A.sz, A.dn, A.nd, A.cx, A.cy, A.ws, fun c => (nxL A x c).map (fun l => (l, 0)), nxG A x, A.mi)
def nxD (A : Ab) (x : llMem) (l c : Nat) : Nat := ixP ((bestP (nxA A x) l).getD []) ((nxR A x l).idxOf c)
def nxB (A : Ab) (x : llMem) : Ab := (A.nl, A.nc, A.dv, A.sz, A.dn, A.nd, A.cx, A.cy, A.ws, fun c => (nxL A x c).map (fun l => (l, nxD A x l c)), nxG A x, A.mi)
theorem nxB_st (A : Ab) (x : llMem) (c : Nat) : (nxB A x).st c = (nxL A x c).map (fun l => (l, nxD A x l c)) := rfl
theorem mapfst (o : Option Nat) (f : Nat → Nat) : (o.map (fun l => (l, f l))).map Prod.fst = o := by cases o <;> rfl
theorem row_nxA (A : Ab) (x : llMem) (l : Nat) : rowOf (nxA A x) l = nxR A x l := by
  refine List.filter_congr (fun c _ => ?_)
  show decide (((nxL A x c).map (fun l => (l, 0))).map Prod.fst = some l) = decide (nxL A x c = some l)
  rw [mapfst (nxL A x c) (fun _ => 0)]
theorem row_nxB (A : Ab) (x : llMem) (l : Nat) : rowOf (nxB A x) l = nxR A x l := by
  refine List.filter_congr (fun c _ => ?_)
  show decide (((nxL A x c).map (fun l => (l, nxD A x l c))).map Prod.fst = some l) = decide (nxL A x c = some l)
  rw [mapfst (nxL A x c) (fun l => nxD A x l c)]
theorem bestP_congr {A B : Ab} {l : Nat} (h1 : rowOf A l = rowOf B l) (h2 : A.mi = B.mi) (h3 : A.sz l = B.sz l) (h4 : A.dv l = B.dv l) : bestP A l = bestP B l ∧ miR A l = miR B l := by
  have e : miR A l = miR B l := by
    funext a b
    unfold miR
    rw [h1, h2]
  unfold bestP
  rw [e, h3, h4]
  exact ⟨rfl, rfl⟩
theorem best_nx (A : Ab) (x : llMem) (l : Nat) : bestP (nxB A x) l = bestP (nxA A x) l := (bestP_congr (A := nxB A x) (B := nxA A x) ((row_nxB A x l).trans (row_nxA A x l).symm) rfl rfl rfl).1
theorem ixP_cons (b : List Nat) (P : List (List Nat)) (z : Nat) : ixP (b :: P) z = if z ∈ b then 0 else ixP P z + 1 := by
  unfold ixP
  rw [List.findIdx_cons]
  by_cases e : z ∈ b
  · rw [contains_t e, if_pos e]; rfl
  · rw [contains_f e, if_neg e]; rfl
theorem blocks_cnt {s : Nat} (hs : 1 ≤ s) : ∀ (D : Nat) (R : List Nat) (P : List (List Nat)), R.Nodup → R.length = D * s → P ∈ blocks s D R → ∀ d, d < D → (R.filter (fun z => decide (ixP P z = d))).length = s
  | 0, R, P, _, _, _, d, hd => by omega
  | D + 1, [], P, _, h, _, _, _ => by rw [List.length_nil, Nat.add_mul] at h; omega
  | D + 1, a :: t, P, hn, h, hP, d, hd => by
    have hn0 := hn
    rw [List.nodup_cons] at hn
    rw [List.length_cons, Nat.add_mul, Nat.one_mul] at h
    rw [blocks, List.mem_flatMap] at hP
    obtain ⟨b, hb, hP⟩ := hP
    obtain ⟨P', hP', rfl⟩ := List.mem_map.mp hP
    obtain ⟨h1, h2⟩ := combos_sub hb
    have h4 := filt_diff hn.2 h1
    cases d with
    | zero =>
      have e := sub_filter (h1.cons_cons a) hn0
      have e2 : (a :: t).filter (fun z => decide (ixP ((a :: b) :: P') z = 0)) = (a :: t).filter (fun c => (a :: b).contains c) := by
        refine List.filter_congr (fun z _ => ?_)
        rw [ixP_cons]
        by_cases q : z ∈ a :: b
        · rw [if_pos q, contains_t q]; rfl
        · rw [if_neg q, contains_f q]; exact decide_eq_false (by omega)
      rw [e2, e, List.length_cons, h2]; omega
    | succ d =>
      have e : (a :: t).filter (fun z => decide (ixP ((a :: b) :: P') z = d + 1)) = (t.filter (fun z => !b.contains z)).filter (fun z => decide (ixP P' z = d)) := by
        have na : ¬ decide (ixP ((a :: b) :: P') a = d + 1) = true := by
          rw [ixP_cons, if_pos (List.mem_cons_self ..)]
          intro z
          have := of_decide_eq_true z
          omega
        rw [List.filter_filter, List.filter_cons_of_neg (p := fun z => decide (ixP ((a :: b) :: P') z = d + 1)) na]
        refine List.filter_congr (fun z hz => ?_)
        have za : z ≠ a := fun q => hn.1 (q ▸ hz)
        rw [ixP_cons]
        by_cases q : z ∈ b
        · rw [if_pos (List.mem_cons_of_mem _ q), contains_t q]
          exact (decide_eq_false (by omega)).trans (by simp)
        · have q2 : z ∉ a :: b := fun w => by
            rcases List.mem_cons.mp w with w | w
            · exact za w
            · exact q w
          rw [if_neg q2, contains_f q]
          simp
      rw [e]
      exact blocks_cnt hs D _ P' (hn.2.sublist List.filter_sublist) (by omega) hP' d (by omega)
theorem idx_get {R : List Nat} (hn : R.Nodup) {a : Nat} (ha : a < R.length) : R.idxOf (R.getD a 0) = a := by
  have hm : R.getD a 0 ∈ R := getD_in ha
  have h1 := List.idxOf_lt_length_of_mem hm
  have h2 : R[R.idxOf (R.getD a 0)] = R.getD a 0 := List.getElem_idxOf h1
  have h3 : R.getD a 0 = R[a] := by rw [List.getD_eq_getElem?_getD, List.getElem?_eq_getElem ha]; rfl
  have h4 := h2.trans h3
  exact (List.getElem_inj hn).mp h4
theorem idx_cnt {R : List Nat} (hn : R.Nodup) (p : Nat → Bool) : (R.filter (fun c => p (R.idxOf c))).length = ((List.range R.length).filter p).length := by
  have e : R.map (fun c => R.idxOf c) = List.range R.length := by
    apply List.ext_getElem
    · rw [List.length_map, List.length_range]
    · intro i h1 h2
      rw [List.getElem_map, List.getElem_range]
      rw [List.length_map] at h1
      have := idx_get hn h1
      rw [List.getD_eq_getElem?_getD, List.getElem?_eq_getElem h1] at this
      exact this
  rw [← e, List.filter_map, List.length_map]; rfl
theorem nxR_pw (A : Ab) (x : llMem) (l : Nat) : (nxR A x l).Pairwise (· < ·) := List.Pairwise.filter _ List.pairwise_lt_range
theorem nxR_nd (A : Ab) (x : llMem) (l : Nat) : (nxR A x l).Nodup := (nxR_pw A x l).imp (fun h => by omega)
theorem nxR_mem {A : Ab} {x : llMem} {l c : Nat} : c ∈ nxR A x l ↔ c < A.nc ∧ nxL A x c = some l := by
  unfold nxR
  rw [List.mem_filter, List.mem_range, decide_eq_true_iff]
theorem nx_best {A : Ab} {x m : llMem} (hp : IPyr A x m) {l : Nat} (hl : l < A.nl) : ∃ P, bestP (nxA A x) l = some P ∧ P ∈ blocks (A.sz l) (A.dv l) (List.range (A.dv l * A.sz l)) := by
  have hsz : 2 ≤ A.sz l := (hp.lv hl).2.2.2.2.2.2.2.2.2.2.1
  have hne := blocks_ne (s := A.sz l) (by omega) (A.dv l) (List.range (A.dv l * A.sz l)) List.nodup_range (by rw [List.length_range])
  obtain ⟨P, hP⟩ := firstMin_some (c := costP (miR (nxA A x) l)) hne
  exact ⟨P, hP, firstMin_mem hP⟩
theorem nx_full {A : Ab} {x m : llMem} (hp : IPyr A x m) (hc : canE A x = true) : FullSt A.nl A.nc A.dv A.sz (nxB A x).st := by
  intro l d hl hd
  obtain ⟨P, h1, h2⟩ := nx_best (x := x) hp hl
  have hsz : 2 ≤ A.sz l := (hp.lv hl).2.2.2.2.2.2.2.2.2.2.1
  have hlen := nx_len hp hc hl
  have k1 : inDiv (nxB A x).st l d A.nc = ((List.range A.nc).filter (fun c => decide (nxD A x l c = d) && decide (nxL A x c = some l))).length := by
    unfold inDiv
    rw [cnt_sum, filt_sum]
    refine sumN_congr A.nc (fun c _ => ?_)
    rw [nxB_st]
    cases q : nxL A x c with
    | none =>
      have n1 : ¬ (Option.map (fun l => (l, nxD A x l c)) none : Option (Nat × Nat)) = some (l, d) := fun z => by cases z
      have n2 : ¬ (decide (nxD A x l c = d) && decide ((none : Option Nat) = some l)) = true := fun z => by
        rw [Bool.and_eq_true] at z
        have := of_decide_eq_true z.2
        cases this
      rw [if_neg n1, if_neg n2]
    | some k =>
      by_cases e : k = l
      · subst e
        by_cases e2 : nxD A x k c = d
        · have n1 : (Option.map (fun l => (l, nxD A x l c)) (some k) : Option (Nat × Nat)) = some (k, d) := by rw [← e2]; rfl
          have n2 : (decide (nxD A x k c = d) && decide (some k = some k)) = true := by rw [Bool.and_eq_true]; exact ⟨decide_eq_true e2, decide_eq_true rfl⟩
          rw [if_pos n1, if_pos n2]
        · have n1 : ¬ (Option.map (fun l => (l, nxD A x l c)) (some k) : Option (Nat × Nat)) = some (k, d) := fun z => e2 (by injection z with z; injection z with z z2)
          have n2 : ¬ (decide (nxD A x k c = d) && decide (some k = some k)) = true := fun z => by
            rw [Bool.and_eq_true] at z
            exact e2 (of_decide_eq_true z.1)
          rw [if_neg n1, if_neg n2]
      · have n1 : ¬ (Option.map (fun l => (l, nxD A x l c)) (some k) : Option (Nat × Nat)) = some (l, d) := fun z => e (by injection z with z; injection z with z z2)
        have n2 : ¬ (decide (nxD A x l c = d) && decide (some k = some l)) = true := fun z => by
          rw [Bool.and_eq_true] at z
          have := of_decide_eq_true z.2
          injection this with this
          exact e this
        rw [if_neg n1, if_neg n2]
  have k2 : (List.range A.nc).filter (fun c => decide (nxD A x l c = d) && decide (nxL A x c = some l)) = (nxR A x l).filter (fun c => (fun a => decide (ixP P a = d)) ((nxR A x l).idxOf c)) := by
    rw [← List.filter_filter]
    show (nxR A x l).filter _ = _
    refine List.filter_congr (fun c _ => ?_)
    unfold nxD
    rw [h1]; rfl
  have k3 := idx_cnt (nxR_nd A x l) (fun a => decide (ixP P a = d))
  rw [k1, k2]
  refine k3.trans ?_
  rw [hlen]
  exact blocks_cnt (by omega) (A.dv l) _ P List.nodup_range (by rw [List.length_range]) h2 d hd
theorem nx_lvB {A : Ab} {x : llMem} {c l : Nat} (h0 : 0 < A.nl) (hst : ∀ l d, A.st c = some (l, d) → l < A.nl) (h : nxL A x c = some l) : l < A.nl := by
  unfold nxL at h
  by_cases e : c ∈ comL A x
  · rw [if_pos e] at h
    injection h with h; omega
  · rw [if_neg e] at h
    by_cases r : rs x c = true
    · rw [if_pos r] at h; cases h
    · rw [if_neg r] at h
      cases hs : A.st c with
      | none => rw [hs] at h; cases h
      | some y =>
        obtain ⟨k, d⟩ := y
        have := hst k d hs
        rw [hs] at h
        dsimp only at h
        by_cases u : c ∈ upL A x k
        · rw [if_pos u] at h; injection h with h; omega
        · rw [if_neg u] at h
          by_cases w : c ∈ dwnL A x k
          · rw [if_pos w] at h
            have := (dwnL_mem w).1
            injection h with h; omega
          · rw [if_neg w] at h; injection h with h; omega
theorem nx_stB {A : Ab} {x m : llMem} (hp : IPyr A x m) (hc : canE A x = true) {c l d : Nat} (hcn : c < A.nc) (h : (nxB A x).st c = some (l, d)) : l < A.nl ∧ d < A.dv l := by
  rw [nxB_st] at h
  cases q : nxL A x c with
  | none => rw [q] at h; cases h
  | some k =>
    rw [q] at h
    injection h with h
    injection h with h1 h2
    subst h1
    have hl := nx_lvB (canE_nl hc) (fun l d e => ((hp.cl hcn).2.2.2.2.2.2.2.2.2.2.2.2.2 l d e).1) q
    refine ⟨hl, ?_⟩
    obtain ⟨P, b1, b2⟩ := nx_best (x := x) hp hl
    have hsz : 2 ≤ A.sz k := (hp.lv hl).2.2.2.2.2.2.2.2.2.2.1
    have hix := List.idxOf_lt_length_of_mem (nxR_mem.mpr ⟨hcn, q⟩)
    rw [nx_len hp hc hl] at hix
    obtain ⟨c1, c2⟩ := blocks_cover (s := A.sz k) (by omega) (A.dv k) (List.range (A.dv k * A.sz k)) P List.nodup_range (by rw [List.length_range]) b2
    have c3 := (findIdx_at (c2 _ (List.mem_range.mpr hix))).1
    rw [← h2]
    unfold nxD
    rw [b1]
    rw [c1] at c3
    exact c3
theorem nx_lv {A : Ab} {x : llMem} {c : Nat} (hst : ∀ l d, A.st c = some (l, d) → l < A.nl) : lvI (nxB A x) c = goalI A x c := by
  have hB : lvI (nxB A x) c = match nxL A x c with
    | some l => nI l
    | none => if nxG A x c = true then -2 else -1 := by
    unfold lvI
    rw [nxB_st]
    cases nxL A x c <;> rfl
  rw [hB]
  unfold goalI gS nxL nxG
  by_cases e : c ∈ comL A x
  · rw [if_pos e, if_pos e]
  · rw [if_neg e, if_neg e]
    cases r : rs x c with
    | true =>
      rw [if_pos rfl, if_pos rfl, Bool.or_true]
      rfl
    | false =>
      have n0 : ¬ (false : Bool) = true := by decide
      rw [if_neg n0, if_neg n0, Bool.or_false]
      cases hs : A.st c with
      | none =>
        dsimp only
        unfold lvI
        rw [hs]
      | some y =>
        obtain ⟨k, d⟩ := y
        dsimp only
        rw [if_pos (hst k d hs)]
        by_cases u : c ∈ upL A x k
        · rw [if_pos u, if_pos u]
        · rw [if_neg u, if_neg u]
          by_cases w : c ∈ dwnL A x k
          · rw [if_pos w, if_pos w]
          · rw [if_neg w, if_neg w]
theorem nx_dv {A : Ab} {x : llMem} {l a : Nat} {P : List (List Nat)} (hP : bestP (nxB A x) l = some P) (ha : a < (nxR A x l).length) : (nxB A x).st ((nxR A x l).getD a 0) = some (l, ixP P a) := by
  have hm := nxR_mem.mp (getD_in ha)
  rw [nxB_st, hm.2]
  show some (l, nxD A x l _) = _
  unfold nxD
  rw [← best_nx, hP, idx_get (nxR_nd A x l) ha]
  rfl
