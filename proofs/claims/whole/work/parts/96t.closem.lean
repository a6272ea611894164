/-! close: the reference's steps -/
def upT (A : Ab) (x : llMem) (k c : Nat) : Nat := match A.st c with
  | some (l, _) => if l < k ∧ c ∈ upL A x l then 1 else 0
  | none => 0
theorem fl_upT (A : Ab) (x : llMem) (k c : Nat) : fl A (upL A x) k c = nI (upT A x k c) := by
  unfold fl upT
  cases A.st c with
  | none => rfl
  | some y =>
    obtain ⟨l, d⟩ := y
    dsimp only
    by_cases e1 : l < k
    · by_cases e2 : c ∈ upL A x l
      · rw [if_pos ⟨e1, e2⟩, decide_eq_true e1, contains_t e2]; rfl
      · rw [if_neg (fun z : l < k ∧ c ∈ upL A x l => e2 z.2), contains_f e2, Bool.and_false]; rfl
    · rw [if_neg (fun z : l < k ∧ c ∈ upL A x l => e1 z.1), decide_eq_false e1]; rfl
theorem upT_le (A : Ab) (x : llMem) (k c : Nat) : upT A x k c ≤ 1 := by
  unfold upT
  cases A.st c with
  | none => exact Nat.zero_le _
  | some y =>
    obtain ⟨l, d⟩ := y
    dsimp only
    by_cases e : l < k ∧ c ∈ upL A x l
    · rw [if_pos e]; exact Nat.le_refl _
    · rw [if_neg e]; exact Nat.zero_le _
theorem upT_s (A : Ab) (x : llMem) (k c : Nat) : upT A x (k + 1) c = upT A x k c + (if c ∈ upL A x k then 1 else 0) := by
  unfold upT
  cases hs : A.st c with
  | none =>
    have : c ∉ upL A x k := fun z => by have := upL_st z; rw [hs] at this; cases this
    rw [if_neg this]
  | some y =>
    obtain ⟨l, d⟩ := y
    have lU : ∀ j, c ∈ upL A x j → j = l := fun j z => by have := upL_st z; rw [hs] at this; injection this with this; exact this.symm
    dsimp only
    by_cases e : l = k
    · subst e
      have n1 : ¬ (l < l ∧ c ∈ upL A x l) := fun z => by have := z.1; omega
      by_cases q : c ∈ upL A x l
      · have n2 : l < l + 1 ∧ c ∈ upL A x l := ⟨by omega, q⟩
        rw [if_neg n1, if_pos n2, if_pos q]
      · have n2 : ¬ (l < l + 1 ∧ c ∈ upL A x l) := fun z => q z.2
        rw [if_neg n1, if_neg n2, if_neg q]
    · have nk : c ∉ upL A x k := fun z => e (lU k z).symm
      by_cases q : l < k ∧ c ∈ upL A x l
      · have n2 : l < k + 1 ∧ c ∈ upL A x l := ⟨by have := q.1; omega, q.2⟩
        rw [if_neg nk, if_pos q, if_pos n2]
      · have n2 : ¬ (l < k + 1 ∧ c ∈ upL A x l) := fun z => q ⟨by have := z.1; omega, z.2⟩
        rw [if_neg nk, if_neg q, if_neg n2]
theorem upT_sum (A : Ab) (x : llMem) : ∀ k, sumN (upT A x k) A.nc = sumN (fun l => (upL A x l).length) k
  | 0 => by
    refine (sumN_congr (g := fun _ => 0) A.nc (fun c _ => ?_)).trans (sumN_zero _)
    unfold upT
    cases A.st c with
    | none => rfl
    | some y =>
      obtain ⟨l, d⟩ := y
      dsimp only
      rw [if_neg (fun z : l < 0 ∧ c ∈ upL A x l => by have := z.1; omega)]
  | k + 1 => by
    rw [sumN_congr (g := fun c => upT A x k c + (if c ∈ upL A x k then 1 else 0)) A.nc (fun c _ => upT_s A x k c), sumN_add, mem_sum (upL_nd A x k) (fun c z => (ord_st (upL_mem z).2.1).1)]
    show sumN (upT A x k) A.nc + _ = _
    rw [upT_sum A x k]; rfl
theorem one_nI (u : llMem) {t : Nat} (h : t ≤ 1) : fx_X12_one u (nI t) = some (nI t) := by
  have : t = 0 ∨ t = 1 := by omega
  rcases this with r | r <;> rw [r] <;> rfl
theorem levels_m {A : Ab} {x m m' : llMem} {mc : Nat} {ml : Nat → Nat × Nat} (h : EndM A x m m') (hp : IPyr A x m) (hs : ISea A x m mc ml) (hr : IRe A x) (h0 : 0 < A.nl) : ∃ e, loop fx_X12_close_69_l13 llFuel (m', 0, 0) = some (e, nI (sumN (fun l => (upL A x l).length) A.nl)) ∧ (∀ i, i ≠ 74 → i ≠ 75 → e.1 i = m'.1 i) ∧ e.2 = m'.2 ∧ ∀ c, c < A.nc → e.1 74 c = goalI A x c ∧ e.1 75 c = -1 := by
  have hn := hp.ncB
  have hn2 := hp.nlB
  have p' := hp.smM h.1 (fun c hc => by simp at hc; omega)
  have s' := hs.smM h.1 (fun c hc => by simp at hc; omega)
  obtain ⟨⟨e, n⟩, k1, k2, k3, k4, k5⟩ := loop_inv (body := fx_X12_close_69_l13) (fun c s => s.2 = (nI (sumN (upT A x A.nl) c), nI c) ∧ (∀ i, i ≠ 74 → i ≠ 75 → s.1.1 i = m'.1 i) ∧ s.1.2 = m'.2 ∧ (∀ k, k < c → s.1.1 74 k = goalI A x k ∧ s.1.1 75 k = -1) ∧ ∀ k, c ≤ k → s.1.1 74 k = m'.1 74 k) (fun e => e.2 = nI (sumN (upT A x A.nl) A.nc) ∧ (∀ i, i ≠ 74 → i ≠ 75 → e.1.1 i = m'.1 i) ∧ e.1.2 = m'.2 ∧ ∀ k, k < A.nc → e.1.1 74 k = goalI A x k ∧ e.1.1 75 k = -1) A.nc llFuel (m', 0, 0) ⟨rfl, fun _ _ _ => rfl, rfl, fun k h => by omega, fun _ _ => rfl⟩ (by
    rintro c ⟨s, n, v⟩ hc ⟨hv, f1, f2, f3, f4⟩
    dsimp only at hv f1 f2 f3 f4
    injection hv with hv1 hv2
    subst hv1
    subst hv2
    obtain ⟨g1, g2, g3, g4⟩ := h.2.2 c hc
    have lt1 : fx_X12_levelThen_69 s (nI c) = some (goalI A x c) := levelThen_m hn hn2 h0 hr hc (fun l d e => ((hp.cl hc).2.2.2.2.2.2.2.2.2.2.2.2.2 l d e).1) (by rw [f1 69 (by decide) (by decide)]; exact p'.m1) (by rw [f4 c (Nat.le_refl _)]; exact (p'.cl hc).m74) (by rw [f1 77 (by decide) (by decide)]; exact (s'.1 c hc).2.2.2.2.2.1) (hs.1 c hc).2.1 (by rw [f1 92 (by decide) (by decide)]; exact g1) (by rw [f1 93 (by decide) (by decide)]; exact g2) (by rw [f1 94 (by decide) (by decide)]; exact g3)
    unfold fx_X12_close_69_l13
    dsimp only
    rw [f1 69 (by decide) (by decide), p'.m9, if_neg (nle2 (by omega) (by omega) hc), lt1, Option.bind_some, gI_nI (by omega) (by decide), rI_n (by omega), f1 92 (by decide) (by decide), g1, fl_upT, one_nI _ (upT_le _ _ _ _), Option.bind_some]
    simp only [lt_eq, gI_nI (show c < 60 by omega) (show 60 < 2 ^ 31 by decide), nI_clamp (show c < 2 ^ 31 by omega), nI_1, nI_add]
    refine ⟨_, rfl, rfl, fun i h1 h2 => ?_, f2, fun k hk => ?_, fun k hk => ?_⟩
    · dsimp only
      rw [SI_ne h2, SI_ne h1, f1 i h1 h2]
    · dsimp only
      rw [SI_same, SI_ne (show (74 : Nat) ≠ 75 by decide), SI_same, SI_ne (show (75 : Nat) ≠ 74 by decide)]
      by_cases e : k = c
      · rw [e, upd_same, upd_same]; exact ⟨rfl, rfl⟩
      · rw [upd_ne e, upd_ne e]; exact f3 k (by omega)
    · dsimp only
      rw [SI_ne (show (74 : Nat) ≠ 75 by decide), SI_same, upd_ne (by omega)]
      exact f4 k (by omega)) (by
    rintro ⟨s, n, v⟩ ⟨hv, f1, f2, f3, f4⟩
    dsimp only at hv f1 f2 f3 f4
    injection hv with hv1 hv2
    subst hv1
    subst hv2
    unfold fx_X12_close_69_l13
    dsimp only
    rw [f1 69 (by decide) (by decide), p'.m9, if_pos (le2 (by omega) (by omega) (Nat.le_refl _))]
    exact ⟨_, rfl, rfl, f1, f2, f3⟩) (llF (by omega))
  dsimp only at k2 k3 k4 k5
  rw [upT_sum] at k2
  subst k2
  exact ⟨e, k1, k3, k4, k5⟩
theorem put_m {s : llMem} {R : List Nat} {f : Nat → Nat} (v1 v2 : Int32) (hR : R.length ≤ 12) (hnd : R.Nodup) (hb : ∀ c, c ∈ R → c < 60) (h41 : s.1 69 41 = nI R.length) (h88 : ∀ a, a < R.length → s.1 88 a = nI (R.getD a 0)) (h91 : ∀ a, a < R.length → s.1 91 a = nI (f a)) : ∃ e, loop (fx_X12_close_69_l76_b61 v1 v2) llFuel (s, 0) = some e ∧ On 75 s e ∧ (∀ a, a < R.length → e.1 75 (R.getD a 0) = nI (f a)) ∧ ∀ c, c ∉ R → e.1 75 c = s.1 75 c := by
  refine loop_inv (fun a t => t.2 = nI a ∧ On 75 s t.1 ∧ (∀ a', a' < a → t.1.1 75 (R.getD a' 0) = nI (f a')) ∧ ∀ c, c ∉ R → t.1.1 75 c = s.1 75 c) _ R.length llFuel (s, 0) ⟨rfl, On.refl _ _, fun a' h => by omega, fun _ _ => rfl⟩ ?_ ?_ (llF (by omega))
  · rintro a ⟨t, v⟩ ha ⟨hv, f1, f2, f3⟩
    dsimp only at hv f1 f2 f3
    subst hv
    have hm := getD_in ha
    have hc := hb _ hm
    unfold fx_X12_close_69_l76_b61
    dsimp only
    simp only [rI_n (show a < 2 ^ 31 by omega), gI_nI (show a < 12 by omega) (show 12 < 2 ^ 31 by decide)]
    rw [f1.1 69 (by decide), h41, if_neg (nle2 (by omega) (by omega) ha), f1.1 88 (by decide), h88 a ha, gI_nI hc (by decide), nI_clamp (by omega), f1.1 91 (by decide), h91 a ha, lt_eq, lt_eq, nI_1]
    refine ⟨_, rfl, rfl, f1.trans (On.SI 75 t _ _), fun a' h' => ?_, fun c hcn => ?_⟩
    · dsimp only
      rw [SI_same]
      by_cases e : a' = a
      · rw [e, upd_same]
      · rw [upd_ne (fun z => e ((List.getD_inj (show a' < R.length by omega) ha hnd).mp z))]
        exact f2 a' (by omega)
    · dsimp only
      rw [SI_same, upd_ne (fun z => hcn (by rw [z]; exact hm))]
      exact f3 c hcn
  · rintro ⟨t, v⟩ ⟨hv, f1, f2, f3⟩
    dsimp only at hv f1 f2 f3
    subst hv
    unfold fx_X12_close_69_l76_b61
    dsimp only
    rw [f1.1 69 (by decide), h41, if_pos (le2 (by omega) (by omega) (Nat.le_refl _))]
    exact ⟨_, rfl, f1, f2, f3⟩
def dvK (B : Ab) (l c : Nat) : Int32 := match B.st c with
  | some (k, d) => if k < l then nI d else -1
  | none => -1
def LD (u s : llMem) : Prop := Sm [69, 75, 88, 89, 90, 91] u s ∧ (∀ j, j < 41 ∨ 43 < j → s.1 69 j = u.1 69 j) ∧ s.2.1 75 = u.2.1 75
theorem LD.refl (u : llMem) : LD u u := ⟨Sm.refl _ _, fun _ _ => rfl, rfl⟩
theorem LD.trans {u v w : llMem} (h1 : LD u v) (h2 : LD v w) : LD u w := ⟨h1.1.trans h2.1, fun j hj => (h2.2.1 j hj).trans (h1.2.1 j hj), h2.2.2.trans h1.2.2⟩
theorem LF.ld {u v : llMem} (h : LF u v) : LD u v := ⟨h.1.mono (by decide), h.2, (h.1 75 (by decide)).2.1⟩
theorem On.ld {u v : llMem} (h : On 75 u v) : LD u v := ⟨h.sm.mono (by decide), fun j _ => by rw [h.1 69 (by decide)], by rw [h.2]⟩
theorem LD.py0 {A : Ab} {x u v : llMem} (h : LD u v) (hp : IPy0 A x u) : IPy0 A x v := hp.ofc (fun _ _ => ⟨rfl, rfl⟩) rfl h.2.2 (fun c hc => by
  simp only [List.mem_cons, List.not_mem_nil, or_false] at hc
  have := h.1 c (fun q => by simp only [List.mem_cons, List.not_mem_nil, or_false] at q; omega)
  exact ⟨this.1, this.2.1⟩) (h.2.1 1 (by omega)) (h.2.1 9 (by omega))
theorem lays_all {B : Ab} {x u : llMem} (hp : IPy0 B x u) (hd : ∀ c l d, c < B.nc → B.st c = some (l, d) → l < B.nl ∧ ∃ a P, a < B.dv l * B.sz l ∧ bestP B l = some P ∧ (rowOf B l).getD a 0 = c ∧ d = ixP P a) (h75 : ∀ c, c < B.nc → u.1 75 c = -1) (v : Int32) : ∃ e, loop (fx_X12_close_69_l61 v) llFuel (u, 0) = some e ∧ LD u e ∧ ∀ c, c < B.nc → e.1 75 c = dvI B c := by
  have hn := hp.ncB
  have hn2 := hp.nlB
  obtain ⟨e, k1, k2, k3⟩ := loop_inv (body := fx_X12_close_69_l61 v) (fun l s => s.2 = nI l ∧ LD u s.1 ∧ ∀ c, c < B.nc → s.1.1 75 c = dvK B l c) (fun e => LD u e ∧ ∀ c, c < B.nc → e.1 75 c = dvK B B.nl c) B.nl llFuel (u, 0) ⟨rfl, LD.refl _, fun c hc => by
      rw [h75 c hc]
      unfold dvK
      cases B.st c with
      | none => rfl
      | some y => obtain ⟨l, d⟩ := y; dsimp only; rw [if_neg (by omega)]⟩ (by
    rintro l ⟨s, w⟩ hl ⟨hv, f1, f2⟩
    dsimp only at hv f1 f2
    subst hv
    have ps : IPy0 B x s := f1.py0 hp
    have h12 := row_12 hp.p hl
    have hlen := row_len hp.p hl
    obtain ⟨s1, P, a1, a2, a3, a4, a5, a6, a7⟩ := laysParts_41 ps hl
    have rnd : (rowOf B l).Nodup := (row_pw B l).imp (fun h => by omega)
    obtain ⟨s2, b1, b2, b3, b4⟩ := put_m (s := s1) (R := rowOf B l) (f := ixP P) v (nI l) h12 rnd (fun c hc => by have := (row_mem.mp hc).1; omega) a7 a5 a6
    unfold fx_X12_close_69_l61
    dsimp only
    rw [ps.m1, if_neg (nle2 (by omega) (by omega) hl), a1, bd_mk, b1, Option.bind_some, lt_eq, nI_1]
    refine ⟨_, rfl, rfl, (f1.trans a2.ld).trans b2.ld, fun c hc => ?_⟩
    dsimp only
    by_cases hr : c ∈ rowOf B l
    · obtain ⟨a, ha, ea⟩ := getD_el hr
      have hs : ∃ d, B.st c = some (l, d) := by
        have := (row_mem.mp hr).2
        cases q : B.st c with
        | none => rw [q] at this; cases this
        | some y =>
          obtain ⟨k, d⟩ := y
          rw [q] at this
          injection this with this
          exact ⟨d, by rw [← this]⟩
      obtain ⟨d, hs⟩ := hs
      obtain ⟨_, a', P', g1, g2, g3, g4⟩ := hd c l d hc hs
      rw [a3] at g2
      injection g2 with g2
      subst g2
      have eaa : a' = a := (List.getD_inj (by rw [hlen]; exact g1) ha rnd).mp (g3.trans ea.symm)
      rw [← ea, b3 a ha, ea]
      unfold dvK
      rw [hs]
      dsimp only
      rw [if_pos (by omega), g4, eaa]
    · rw [b4 c hr, (a2.1 75 (by decide)).1, f2 c hc]
      unfold dvK
      cases q : B.st c with
      | none => rfl
      | some y =>
        obtain ⟨k, d⟩ := y
        dsimp only
        have hk : k ≠ l := fun z => hr (row_mem.mpr ⟨hc, by rw [q, z]; rfl⟩)
        by_cases g : k < l
        · rw [if_pos g, if_pos (by omega)]
        · rw [if_neg g, if_neg (by omega)]) (by
    rintro ⟨s, w⟩ ⟨hv, f1, f2⟩
    dsimp only at hv f1 f2
    subst hv
    have ps : IPy0 B x s := f1.py0 hp
    unfold fx_X12_close_69_l61
    dsimp only
    rw [ps.m1, if_pos (le2 (by omega) (by omega) (Nat.le_refl _))]
    exact ⟨_, rfl, f1, f2⟩) (llF (by omega))
  refine ⟨e, k1, k2, fun c hc => ?_⟩
  rw [k3 c hc]
  unfold dvK dvI
  cases q : B.st c with
  | none => rfl
  | some y =>
    obtain ⟨l, d⟩ := y
    dsimp only
    rw [if_pos (hd c l d hc q).1]
