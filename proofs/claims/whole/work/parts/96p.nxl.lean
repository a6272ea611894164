/-! the pyramid when a season has closed: who stands at which level -/
def nxL (A : Ab) (x : llMem) (c : Nat) : Option Nat := if c ∈ comL A x then some (A.nl - 1) else if rs x c = true then none else match A.st c with
  | none => none
  | some (l, _) => if c ∈ upL A x l then some (l - 1) else if c ∈ dwnL A x l then some (l + 1) else some l
/-- stays where it is -/
def stB (A : Ab) (x : llMem) (l c : Nat) : Bool := decide ((A.st c).map Prod.fst = some l ∧ rs x c = false ∧ c ∉ upL A x l ∧ c ∉ dwnL A x l)
theorem filt_sum (P : Nat → Bool) : ∀ n, ((List.range n).filter P).length = sumN (fun c => if P c = true then 1 else 0) n
  | 0 => rfl
  | n + 1 => by
    rw [rfil_s, List.length_append, filt_sum P n]
    show _ = sumN (fun c => if P c = true then 1 else 0) n + (if P n = true then 1 else 0)
    cases P n <;> rfl
theorem mem_sum {S : List Nat} {n : Nat} (hn : S.Nodup) (hb : ∀ c, c ∈ S → c < n) : sumN (fun c => if c ∈ S then 1 else 0) n = S.length := by
  have h1 : ((List.range n).filter (fun c => decide (c ∈ S))).Perm S := by
    rw [List.perm_ext_iff_of_nodup (List.nodup_range.sublist List.filter_sublist) hn]
    intro c
    rw [List.mem_filter, List.mem_range, decide_eq_true_iff]
    exact ⟨fun h => h.2, fun h => ⟨hb c h, h⟩⟩
  rw [← h1.length_eq, filt_sum]
  refine sumN_congr n (fun c _ => ?_)
  by_cases e : c ∈ S
  · rw [if_pos e, if_pos (decide_eq_true e)]
  · rw [if_neg e, if_neg (fun z => e (of_decide_eq_true z))]
theorem upL_nd (A : Ab) (x : llMem) (l : Nat) : (upL A x l).Nodup := by
  unfold upL
  by_cases e : l = 0
  · rw [if_pos e]; exact List.nodup_nil
  · rw [if_neg e]
    refine List.Nodup.sublist (List.take_sublist _ _) ?_
    unfold upQ
    rw [List.nodup_append]
    refine ⟨(ordL_nodup A x l).sublist List.filter_sublist, (ordL_nodup A x l).sublist List.filter_sublist, fun a ha b hb e => ?_⟩
    have h1 := (List.mem_filter.mp ha).2
    have h2 := (List.mem_filter.mp hb).2
    rw [← e, h1] at h2
    cases q : rs x a
    · rw [q] at h2; cases h2
    · rw [q] at h2; cases h2
theorem dwnL_nd (A : Ab) (x : llMem) (l : Nat) : (dwnL A x l).Nodup := by
  unfold dwnL
  by_cases e : l + 1 < A.nl
  · rw [if_pos e]
    refine List.Nodup.sublist (List.drop_sublist _ _) ?_
    unfold styL
    exact (ordL_nodup A x l).sublist List.filter_sublist
  · rw [if_neg e]; exact List.nodup_nil
theorem comL_nd (A : Ab) (x : llMem) : (comL A x).Nodup := by
  unfold comL
  refine List.Nodup.sublist (List.take_sublist _ _) ?_
  exact List.nodup_range.sublist List.filter_sublist
theorem old_ind {A : Ab} {x : llMem} {l c : Nat} : (if lvIs A l c = true then 1 else 0 : Nat) = (if (rs x c && lvIs A l c) = true then 1 else 0) + (if c ∈ upL A x l then 1 else 0) + (if c ∈ dwnL A x l then 1 else 0) + (if stB A x l c = true then 1 else 0) := by
  by_cases hL : (A.st c).map Prod.fst = some l
  · have eL : lvIs A l c = true := decide_eq_true hL
    rw [eL, Bool.and_true, if_pos rfl]
    cases r : rs x c with
    | true =>
      have hU : c ∉ upL A x l := fun z => by have := (upL_mem z).2.2; rw [r] at this; cases this
      have hD : c ∉ dwnL A x l := fun z => by have := (dwnL_mem z).2.2.1; rw [r] at this; cases this
      have hS : ¬ stB A x l c = true := fun z => by have := (of_decide_eq_true z).2.1; rw [r] at this; cases this
      rw [if_pos rfl, if_neg hU, if_neg hD, if_neg hS] <;> rfl
    | false =>
      have n0 : ¬ (false : Bool) = true := by decide
      by_cases u : c ∈ upL A x l
      · have hD : c ∉ dwnL A x l := fun z => (dwnL_mem z).2.2.2 u
        have hS : ¬ stB A x l c = true := fun z => (of_decide_eq_true z).2.2.1 u
        rw [if_neg n0, if_pos u, if_neg hD, if_neg hS] <;> rfl
      · by_cases d : c ∈ dwnL A x l
        · have hS : ¬ stB A x l c = true := fun z => (of_decide_eq_true z).2.2.2 d
          rw [if_neg n0, if_neg u, if_pos d, if_neg hS] <;> rfl
        · have hS : stB A x l c = true := decide_eq_true ⟨hL, r, u, d⟩
          rw [if_neg n0, if_neg u, if_neg d, if_pos hS] <;> rfl
  · have eL : lvIs A l c = false := decide_eq_false hL
    have n0 : ¬ (false : Bool) = true := by decide
    have hU : c ∉ upL A x l := fun z => hL (upL_st z)
    have hD : c ∉ dwnL A x l := fun z => hL (dwnL_st z)
    have hS : ¬ stB A x l c = true := fun z => hL (of_decide_eq_true z).1
    rw [eL, Bool.and_false, if_neg n0, if_neg hU, if_neg hD, if_neg hS] <;> rfl
theorem new_ind {A : Ab} {x : llMem} {l c : Nat} (hl : l < A.nl) : (if nxL A x c = some l then 1 else 0 : Nat) = (if stB A x l c = true then 1 else 0) + (if c ∈ upL A x (l + 1) then 1 else 0) + (if 0 < l ∧ c ∈ dwnL A x (l - 1) then 1 else 0) + (if l + 1 = A.nl ∧ c ∈ comL A x then 1 else 0) := by
  cases hs : A.st c with
  | none =>
    have hU : ∀ k, c ∉ upL A x k := fun k z => by have := upL_st z; rw [hs] at this; cases this
    have hD : ∀ k, c ∉ dwnL A x k := fun k z => by have := dwnL_st z; rw [hs] at this; cases this
    have hS : ¬ stB A x l c = true := fun z => by have := (of_decide_eq_true z).1; rw [hs] at this; cases this
    have nD : ¬ (0 < l ∧ c ∈ dwnL A x (l - 1)) := fun z => hD _ z.2
    rw [if_neg hS, if_neg (hU _), if_neg nD]
    by_cases hC : c ∈ comL A x
    · have e : nxL A x c = some (A.nl - 1) := by unfold nxL; rw [if_pos hC]
      by_cases q : l + 1 = A.nl
      · have e1 : nxL A x c = some l := by rw [e, ← q]; rfl
        have e2 : l + 1 = A.nl ∧ c ∈ comL A x := ⟨q, hC⟩
        rw [if_pos e1, if_pos e2] <;> rfl
      · have e1 : ¬ nxL A x c = some l := fun z => q (by rw [e] at z; injection z with z; omega)
        have e2 : ¬ (l + 1 = A.nl ∧ c ∈ comL A x) := fun z => q z.1
        rw [if_neg e1, if_neg e2] <;> rfl
    · have e : nxL A x c = none := by
        unfold nxL
        rw [if_neg hC, hs]
        split <;> rfl
      have e1 : ¬ nxL A x c = some l := fun z => by rw [e] at z; cases z
      have e2 : ¬ (l + 1 = A.nl ∧ c ∈ comL A x) := fun z => hC z.2
      rw [if_neg e1, if_neg e2] <;> rfl
  | some y =>
    obtain ⟨k, d⟩ := y
    have hk : (A.st c).map Prod.fst = some k := by rw [hs]; rfl
    have hC : c ∉ comL A x := fun z => by have := (comL_mem z).2.1; rw [hs] at this; cases this
    have nC : ¬ (l + 1 = A.nl ∧ c ∈ comL A x) := fun z => hC z.2
    have lU : ∀ j, c ∈ upL A x j → j = k := fun j z => by have := upL_st z; rw [hk] at this; injection this with this; exact this.symm
    have lD : ∀ j, c ∈ dwnL A x j → j = k := fun j z => by have := dwnL_st z; rw [hk] at this; injection this with this; exact this.symm
    have sL : stB A x l c = true → l = k := fun z => by have := (of_decide_eq_true z).1; rw [hk] at this; injection this with this; exact this.symm
    rw [if_neg nC]
    cases r : rs x c with
    | true =>
      have hU : ∀ j, c ∉ upL A x j := fun j z => by have := (upL_mem z).2.2; rw [r] at this; cases this
      have hD : ∀ j, c ∉ dwnL A x j := fun j z => by have := (dwnL_mem z).2.2.1; rw [r] at this; cases this
      have hS : ¬ stB A x l c = true := fun z => by have := (of_decide_eq_true z).2.1; rw [r] at this; cases this
      have nD : ¬ (0 < l ∧ c ∈ dwnL A x (l - 1)) := fun z => hD _ z.2
      have e : nxL A x c = none := by unfold nxL; rw [if_neg hC, if_pos r]
      have e1 : ¬ nxL A x c = some l := fun z => by rw [e] at z; cases z
      rw [if_neg e1, if_neg hS, if_neg (hU _), if_neg nD] <;> rfl
    | false =>
      have r' : ¬ rs x c = true := by rw [r]; decide
      by_cases u : c ∈ upL A x k
      · have k0 := (upL_mem u).1
        have nD : ¬ (0 < l ∧ c ∈ dwnL A x (l - 1)) := fun z => by
          have h2 := z.2
          rw [lD _ h2] at h2
          exact (dwnL_mem h2).2.2.2 u
        have e : nxL A x c = some (k - 1) := by unfold nxL; rw [if_neg hC, if_neg r', hs]; dsimp only; rw [if_pos u]
        have hS : ¬ stB A x l c = true := fun z => by
          have := sL z
          have z3 := (of_decide_eq_true z).2.2.1
          rw [this] at z3; exact z3 u
        rw [if_neg hS, if_neg nD]
        by_cases q : k = l + 1
        · have e1 : nxL A x c = some l := by rw [e, q]; rfl
          have e2 : c ∈ upL A x (l + 1) := by rw [← q]; exact u
          rw [if_pos e1, if_pos e2] <;> rfl
        · have e1 : ¬ nxL A x c = some l := fun z => q (by rw [e] at z; injection z with z; omega)
          have e2 : c ∉ upL A x (l + 1) := fun z => q (lU _ z).symm
          rw [if_neg e1, if_neg e2] <;> rfl
      · have nU : c ∉ upL A x (l + 1) := fun z => by
          have h2 := z
          rw [lU _ z] at h2; exact u h2
        by_cases d : c ∈ dwnL A x k
        · have e : nxL A x c = some (k + 1) := by unfold nxL; rw [if_neg hC, if_neg r', hs]; dsimp only; rw [if_neg u, if_pos d]
          have hS : ¬ stB A x l c = true := fun z => by
            have := sL z
            have z3 := (of_decide_eq_true z).2.2.2
            rw [this] at z3; exact z3 d
          rw [if_neg hS, if_neg nU]
          by_cases q : k + 1 = l
          · have e1 : nxL A x c = some l := by rw [e, q]
            have e2 : 0 < l ∧ c ∈ dwnL A x (l - 1) := ⟨by omega, by rw [← q]; exact d⟩
            rw [if_pos e1, if_pos e2] <;> rfl
          · have e1 : ¬ nxL A x c = some l := fun z => q (by rw [e] at z; injection z with z)
            have e2 : ¬ (0 < l ∧ c ∈ dwnL A x (l - 1)) := fun z => q (by have := lD _ z.2; omega)
            rw [if_neg e1, if_neg e2] <;> rfl
        · have e : nxL A x c = some k := by unfold nxL; rw [if_neg hC, if_neg r', hs]; dsimp only; rw [if_neg u, if_neg d]
          have nD : ¬ (0 < l ∧ c ∈ dwnL A x (l - 1)) := fun z => by
            have h2 := z.2
            rw [lD _ h2] at h2; exact d h2
          rw [if_neg nU, if_neg nD]
          by_cases q : k = l
          · have e1 : nxL A x c = some l := by rw [e, q]
            have e2 : stB A x l c = true := by rw [← q]; exact decide_eq_true ⟨hk, r, u, d⟩
            rw [if_pos e1, if_pos e2] <;> rfl
          · have e1 : ¬ nxL A x c = some l := fun z => q (by rw [e] at z; injection z with z)
            have e2 : ¬ stB A x l c = true := fun z => q (sL z).symm
            rw [if_neg e1, if_neg e2] <;> rfl
def nxR (A : Ab) (x : llMem) (l : Nat) : List Nat := (List.range A.nc).filter (fun c => decide (nxL A x c = some l))
theorem canE_up {A : Ab} {x : llMem} (h : canE A x = true) {k : Nat} (h0 : 0 < k) (hk : k < A.nl) : (upL A x k).length = riN A x (k - 1) := by
  unfold canE at h
  rw [Bool.and_eq_true, Bool.and_eq_true] at h
  have := allB_iff.mp h.1.2 k hk
  unfold cL at this
  rw [Bool.and_eq_true, Bool.or_eq_true] at this
  rcases this.1 with q | q
  · have := of_decide_eq_true q; omega
  · exact of_decide_eq_true q
theorem canE_dn {A : Ab} {x : llMem} (h : canE A x = true) {k : Nat} (hk : k + 1 < A.nl) : (dwnL A x k).length = falN A x k := by
  unfold canE at h
  rw [Bool.and_eq_true, Bool.and_eq_true] at h
  have := allB_iff.mp h.1.2 k (by omega)
  unfold cL at this
  rw [Bool.and_eq_true, Bool.or_eq_true, Bool.or_eq_true] at this
  unfold dwnL
  rw [if_pos hk, List.length_drop]
  rcases this.2 with q | q
  · have := of_decide_eq_true q; omega
  · have := of_decide_eq_true q; omega
theorem canE_com {A : Ab} {x : llMem} (h : canE A x = true) : (comL A x).length = wanB A x A.nl := by
  unfold canE at h
  rw [Bool.and_eq_true] at h
  exact of_decide_eq_true h.2
theorem wanB_0 (A : Ab) (x : llMem) : wanB A x 0 = 0 := by
  unfold wanB
  rw [filt_sum]
  refine (sumN_congr (g := fun _ => 0) A.nc (fun c _ => ?_)).trans (sumN_zero _)
  have : lvLt A 0 c = false := by
    unfold lvLt
    cases A.st c with
    | none => rfl
    | some y => obtain ⟨l, d⟩ := y; exact decide_eq_false (by omega)
  rw [this, Bool.and_false]; rfl
theorem sumN_if {p : Prop} [Decidable p] {S : List Nat} {n : Nat} (hn : S.Nodup) (hb : ∀ c, c ∈ S → c < n) : sumN (fun c => if p ∧ c ∈ S then 1 else 0) n = if p then S.length else 0 := by
  by_cases e : p
  · rw [if_pos e, ← mem_sum hn hb]
    refine sumN_congr n (fun c _ => ?_)
    by_cases q : c ∈ S
    · rw [if_pos q, if_pos ⟨e, q⟩]
    · rw [if_neg q, if_neg (fun z : p ∧ c ∈ S => q z.2)]
  · rw [if_neg e]
    refine (sumN_congr (g := fun _ => 0) n (fun c _ => ?_)).trans (sumN_zero _)
    rw [if_neg (fun z : p ∧ c ∈ S => e z.1)]
theorem nx_len {A : Ab} {x m : llMem} (hp : IPyr A x m) (hc : canE A x = true) {l : Nat} (hl : l < A.nl) : (nxR A x l).length = A.dv l * A.sz l := by
  have bu : ∀ k c, c ∈ upL A x k → c < A.nc := fun k c z => (ord_st (upL_mem z).2.1).1
  have bd' : ∀ k c, c ∈ dwnL A x k → c < A.nc := fun k c z => (ord_st (dwnL_mem z).2.1).1
  have bc : ∀ c, c ∈ comL A x → c < A.nc := fun c z => (comL_mem z).1
  have o1 : (rowOf A l).length = sumN (fun c => if lvIs A l c = true then 1 else 0) A.nc := filt_sum (lvIs A l) A.nc
  rw [sumN_congr A.nc (fun c _ => old_ind (A := A) (x := x) (l := l) (c := c)), sumN_add, sumN_add, sumN_add, mem_sum (upL_nd A x l) (bu l), mem_sum (dwnL_nd A x l) (bd' l), ← filt_sum (fun c => rs x c && lvIs A l c), row_len hp hl] at o1
  have o2 : (nxR A x l).length = sumN (fun c => if nxL A x c = some l then 1 else 0) A.nc := by
    unfold nxR
    rw [filt_sum]
    refine sumN_congr A.nc (fun c _ => ?_)
    by_cases e : nxL A x c = some l
    · rw [if_pos e, if_pos (decide_eq_true e)]
    · rw [if_neg e, if_neg (fun z => e (of_decide_eq_true z))]
  rw [sumN_congr A.nc (fun c _ => new_ind (A := A) (x := x) (l := l) (c := c) hl), sumN_add, sumN_add, sumN_add, mem_sum (upL_nd A x (l + 1)) (bu (l + 1)), sumN_if (dwnL_nd A x (l - 1)) (bd' (l - 1)), sumN_if (comL_nd A x) bc] at o2
  have w1 := wanB_s A x l
  have w0 := wanB_0 A x
  have cc := canE_com hc
  have upl : l = 0 → (upL A x l).length = 0 := fun e => by unfold upL; rw [if_pos e]; rfl
  have upl' : 0 < l → (upL A x l).length = riN A x (l - 1) := fun e => canE_up hc e hl
  have dn1 : l + 1 < A.nl → (dwnL A x l).length = riN A x l - wanB A x (l + 1) := fun e => canE_dn hc e
  have dn2 : ¬ l + 1 < A.nl → (dwnL A x l).length = 0 := fun e => by unfold dwnL; rw [if_neg e]; rfl
  have up1 : l + 1 < A.nl → (upL A x (l + 1)).length = riN A x l := fun e => canE_up hc (by omega) e
  have up2 : ¬ l + 1 < A.nl → (upL A x (l + 1)).length = 0 := fun e => by
    cases q : upL A x (l + 1) with
    | nil => rfl
    | cons c t =>
      have hm : c ∈ upL A x (l + 1) := by rw [q]; exact List.mem_cons_self ..
      obtain ⟨h1, d, h2⟩ := ord_st (upL_mem hm).2.1
      have := ((hp.cl h1).2.2.2.2.2.2.2.2.2.2.2.2.2 _ _ h2).1
      omega
  have dm : 0 < l → (dwnL A x (l - 1)).length = riN A x (l - 1) - wanB A x l := fun e => by
    have := canE_dn hc (k := l - 1) (by omega)
    unfold falN at this
    rw [show l - 1 + 1 = l by omega] at this; exact this
  have ri1 := (riN_le (x := x) hp hl).1
  have ri0 : 0 < l → wanB A x l ≤ riN A x (l - 1) := fun e => by
    have := (riN_le (x := x) hp (l := l - 1) (by omega)).1
    rw [show l - 1 + 1 = l by omega] at this; exact this
  have last : l + 1 = A.nl → wanB A x (l + 1) = wanB A x A.nl := fun e => by rw [e]
  by_cases e0 : 0 < l
  · rw [if_pos e0] at o2
    by_cases e1 : l + 1 < A.nl
    · rw [if_neg (show ¬ l + 1 = A.nl by omega)] at o2
      have := upl' e0; have := dn1 e1; have := up1 e1; have := dm e0; have := ri0 e0
      omega
    · have e2 : l + 1 = A.nl := by omega
      rw [if_pos e2] at o2
      have := upl' e0; have := dn2 e1; have := up2 e1; have := dm e0; have := ri0 e0; have := last e2
      omega
  · rw [if_neg e0] at o2
    have z0 : l = 0 := by omega
    have w00 : wanB A x l = 0 := by rw [z0]; exact w0
    by_cases e1 : l + 1 < A.nl
    · rw [if_neg (show ¬ l + 1 = A.nl by omega)] at o2
      have := upl z0; have := dn1 e1; have := up1 e1
      omega
    · have e2 : l + 1 = A.nl := by omega
      rw [if_pos e2] at o2
      have := upl z0; have := dn2 e1; have := up2 e1; have := last e2
      omega
