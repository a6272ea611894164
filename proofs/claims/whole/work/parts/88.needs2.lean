def vaN (a b : Bool) (n k : Nat) : Int32 := if a = true ∧ k < n then nI k else if b = true ∧ k ≤ 9 then nI (max k n) else -1
theorem vaN_s {a b : Bool} {n k : Nat} (hn : n ≤ 9) (hk : k ≤ 9) : (if (if k < n then a else b) = true then nI k else vaN a b n (k + 1)) = vaN a b n k := by
  have F : ∀ p : Prop, ¬ (false = true ∧ p) := fun p z => by cases z.1
  unfold vaN
  by_cases e : k < n
  · rw [if_pos e]
    cases a
    · rw [if_neg (show ¬ false = true by decide), if_neg (F (k + 1 < n)), if_neg (F (k < n))]
      cases b
      · rw [if_neg (F (k + 1 ≤ 9)), if_neg (F (k ≤ 9))]
      · rw [if_pos (show true = true ∧ k + 1 ≤ 9 from ⟨rfl, by omega⟩), if_pos (show true = true ∧ k ≤ 9 from ⟨rfl, by omega⟩), show max (k + 1) n = max k n by omega]
    · rw [if_pos rfl, if_pos (show true = true ∧ k < n from ⟨rfl, e⟩)]
  · rw [if_neg e, if_neg (show ¬ (a = true ∧ k < n) from fun z => e z.2), if_neg (show ¬ (a = true ∧ k + 1 < n) from fun z => by omega)]
    cases b
    · rw [if_neg (show ¬ false = true by decide), if_neg (F (k + 1 ≤ 9)), if_neg (F (k ≤ 9))]
    · rw [if_pos rfl, if_pos (show true = true ∧ k ≤ 9 from ⟨rfl, hk⟩), show max k n = k by omega]
theorem upd_upd {f : Nat → Int32} {c : Nat} {v w : Int32} : upd (upd f c v) c w = upd f c w := by
  funext k
  by_cases e : k = c
  · rw [e, upd_same, upd_same]
  · rw [upd_ne e, upd_ne e, upd_ne e]
theorem upd_idc {f : Nat → Int32} {c : Nat} : upd f c (f c) = f := by
  funext k
  by_cases e : k = c
  · rw [e, upd_same]
  · rw [upd_ne e]
theorem riB_g {A : Ab} {x m : llMem} (hp : IPyr A x m) {c l d : Nat} (hst : A.st c = some (l, d)) (hl : l < A.nl) {g : Nat} (hg : g ≤ 9) : riB A x c l g = if g < A.nd (l - 1) then riB A x c l 0 else riB A x c l (A.nd (l - 1)) := by
  have hnd : A.nd (l - 1) ≤ 9 := (hp.lv (show l - 1 < A.nl by omega)).2.2.2.2.2.2.2.2.2.2.2.2.2.2
  by_cases e : g < A.nd (l - 1)
  · rw [if_pos e]
    refine riB_of (fun _ _ _ => rfl) (fun _ _ => rfl) (fun l' d' hs' => ?_)
    rw [hst] at hs'
    injection hs' with hs'
    injection hs' with e1 e2
    subst e1
    exact ⟨fun _ => lt2 (by omega) (by omega) (by omega), fun _ => lt2 (by omega) (by omega) e⟩
  · rw [if_neg e]
    refine riB_of (fun _ _ _ => rfl) (fun _ _ => rfl) (fun l' d' hs' => ?_)
    rw [hst] at hs'
    injection hs' with hs'
    injection hs' with e1 e2
    subst e1
    exact ⟨fun z => absurd z (nlt2 (by omega) (by omega) (by omega)), fun z => absurd z (nlt2 (by omega) (by omega) (by omega))⟩
def GrM (m : llMem) (c : Nat) (s : llMem) : Prop := ∃ t, Sm [81, 82, 83, 84, 85, 86, 87, 92, 93, 94, 95, 96, 97, 98, 99] (llSI m 77 c t) s
theorem GrM.set {m s : llMem} {c : Nat} (h : GrM m c s) (v : Int32) : Sm [81, 82, 83, 84, 85, 86, 87, 92, 93, 94, 95, 96, 97, 98, 99] (llSI m 77 c v) (llSI s 77 c v) := by
  obtain ⟨t, h⟩ := h
  intro i hi
  refine ⟨?_, ?_, ?_⟩
  · by_cases e : i = 77
    · subst e
      rw [SI_same, SI_same, (h 77 (by decide)).1, SI_same, upd_upd]
    · rw [SI_ne e, SI_ne e, (h i hi).1, SI_ne e]
  · exact (h i hi).2.1
  · exact (h i hi).2.2
theorem needs_m {A : Ab} {x m : llMem} {mc : Nat} {ml : Nat → Nat × Nat} (hp : IPyr A x m) (hs : ISea A x m mc ml) (hr : IRe A x) {c l d : Nat} (hc : c < A.nc) (hst : A.st c = some (l, d)) (hl : l < A.nl) (v2 : Int32) :
    ∃ e, loop (fx_X12_needs_69_l25 (nI c) v2) llFuel (m, -1, 9) = some e ∧ e.2 = vaN (riB A x c l 0) (riB A x c l (A.nd (l - 1))) (A.nd (l - 1)) 0 ∧ GrM m c e.1 := by
  have hn := hp.ncB
  have hnd : A.nd (l - 1) ≤ 9 := (hp.lv (show l - 1 < A.nl by omega)).2.2.2.2.2.2.2.2.2.2.2.2.2.2
  have hri := fun (g : Nat) (hg : g ≤ 9) => riB_g (x := x) hp hst hl hg
  generalize riB A x c l 0 = a at *
  generalize riB A x c l (A.nd (l - 1)) = b at *
  refine loop_inv (body := fx_X12_needs_69_l25 (nI c) v2) (fun j s => s.2 = (vaN a b (A.nd (l - 1)) (10 - j), nI (10 - j) - 1) ∧ GrM m c s.1) _ 10 llFuel (m, -1, 9) ⟨?_, m.1 77 c, ?_⟩ ?_ ?_ (llF (by decide))
  · unfold vaN
    rw [if_neg (by omega), if_neg (by omega)]; rfl
  · intro i hi
    refine ⟨?_, rfl, rfl⟩
    by_cases e : i = 77
    · subst e; rw [SI_same, upd_idc]
    · rw [SI_ne e]
  · rintro j ⟨s, v⟩ hj ⟨hv, f1⟩
    dsimp only at hv f1
    subst hv
    have F := f1.set (nI (9 - j))
    have hm : nI (10 - j) - 1 = nI (9 - j) := by rw [pk_m1' (by omega), show 10 - j - 1 = 9 - j by omega]
    have hz : nI (9 - j) + (-1) = nI (10 - (j + 1)) - 1 := by
      rw [show 10 - (j + 1) = 9 - j by omega]; grind
    obtain ⟨p1, p2, p3⟩ := grade_inv (u := llSI s 77 c (nI (9 - j))) (g := 9 - j) hp hs hr hc (by omega) (fun i hi => by
      simp only [List.mem_cons, List.not_mem_nil, or_false] at hi
      have h0 := F i (fun q => by simp only [List.mem_cons, List.not_mem_nil, or_false] at q; omega)
      exact ⟨by rw [h0.1, SI_ne (by omega)], h0.2.1⟩) (by rw [(F 69 (by decide)).1, SI_ne (by decide)]) (by rw [(F 69 (by decide)).1, SI_ne (by decide)]) (by rw [(F 77 (by decide)).1, SI_same])
    obtain ⟨u, b1, b2, b3⟩ := ends_m p1 p2
    unfold fx_X12_needs_69_l25 fx_X12_needs_69_j59_b25
    dsimp only
    have hc0 : (0 : Int32) + nI c = nI c := by grind
    rw [hm, if_neg (by have := nlt2 (a := 9 - j) (b := 0) (by omega) (by omega) (by omega); exact this), hc0, gI_nI (by omega) (by decide), nI_clamp (by omega), lt_eq, b1, bd_mk, hz]
    have hva := vaN_s (a := a) (b := b) hnd (show 9 - j ≤ 9 by omega)
    rw [← hri (9 - j) (by omega), show 9 - j + 1 = 10 - j by omega] at hva
    have res : ∀ v, v = vaN a b (A.nd (l - 1)) (9 - j) → ∃ s', (some (Sum.inl (u, v, nI (10 - (j + 1)) - 1)) : Option ((llMem × Int32 × Int32) ⊕ (llMem × Int32))) = some (.inl s') ∧ s'.2 = (vaN a b (A.nd (l - 1)) (10 - (j + 1)), nI (10 - (j + 1)) - 1) ∧ GrM m c s'.1 := by
      intro v hv
      exact ⟨_, rfl, by rw [hv, show 10 - (j + 1) = 9 - j by omega], nI (9 - j), F.trans b2⟩
    simp only [lt_eq]
    unfold riB at hva
    cases q : canE A (llSI x 11 c (nI (9 - j)))
    · rw [q, Bool.false_and, if_neg (by decide)] at hva
      rw [if_pos (show b01 false = 0 from rfl)]
      exact res _ hva
    · rw [q, Bool.true_and] at hva
      have E := b3 (canE_nl q)
      rw [if_neg (show ¬ b01 true = 0 by decide), gI_nI (by omega) (by decide), rI_n (by omega), (E.2.2 c hc).1, fl_at (l := l) (by rw [hst]; rfl), decide_eq_true hl, Bool.true_and]
      cases q2 : (upL A (llSI x 11 c (nI (9 - j))) l).contains c
      · rw [q2, if_neg (by decide)] at hva
        rw [if_pos (show b01 false = 0 from rfl)]
        exact res _ hva
      · rw [q2, if_pos rfl] at hva
        rw [if_neg (show ¬ b01 true = 0 by decide)]
        exact res _ hva
  · rintro ⟨s, v⟩ ⟨hv, f1⟩
    dsimp only at hv f1
    subst hv
    unfold fx_X12_needs_69_l25
    dsimp only
    rw [if_pos (by decide)]
    exact ⟨_, rfl, rfl, f1⟩
theorem needs_S (a : Int32) : StepW (fun u => fx_X11_needs_0 u a) (fun u => fx_X12_needs_69 u a) := by
  rintro x m ⟨A, mc, ml, k, cj, h⟩
  have hp := h.1
  have hs := h.2.1
  have hr := h.2.2.2.2.2.2.2.2
  have hn := hp.ncB
  have hn2 := hp.nlB
  dsimp only
  unfold fx_X11_needs_0 fx_X12_needs_69
  rcases plays_B hp a with ⟨c, l, d, hc, rfl, hst, hl, hd, p1, p2⟩ | ⟨p1, p2⟩
  · have hc0 : (0 : Int32) + nI c = nI c := by grind
    have hnd : A.nd (l - 1) ≤ 9 := (hp.lv (show l - 1 < A.nl by omega)).2.2.2.2.2.2.2.2.2.2.2.2.2.2
    have e12 : x.1 12 c = nI l := by rw [(hp.cl hc).x12]; unfold lvI; rw [hst]
    obtain ⟨⟨e, ve⟩, b1, b2, b3⟩ := needs_m hp hs hr hc hst hl (m.1 77 c)
    dsimp only at b2 b3
    rw [p1, p2, Option.bind_some, Option.bind_some, if_neg (show ¬ (1 : Int32) = 0 by decide), if_pos (show ¬ (1 : Int32) = 0 by decide), hc0]
    simp only [gI_nI (show c < 1020 by omega) (show 1020 < 2 ^ 31 by decide)]
    rw [gI_nI (show c < 30 by omega) (by decide), rI_n (show c < 2 ^ 31 by omega), rI_n (show c < 2 ^ 31 by omega), e12, lt_eq, b1, Option.bind_some]
    dsimp only
    rw [nI_clamp (show c < 2 ^ 31 by omega), lt_eq, b2]
    have hq : QM m (llSI e 77 c (m.1 77 c)) := by
      have F := b3.set (m.1 77 c)
      have G : Sm [81, 82, 83, 84, 85, 86, 87, 92, 93, 94, 95, 96, 97, 98, 99] m (llSI e 77 c (m.1 77 c)) := fun i hi => by
        refine ⟨?_, (F i hi).2.1, (F i hi).2.2⟩
        rw [(F i hi).1]
        by_cases e7 : i = 77
        · subst e7; rw [SI_same, upd_idc]
        · rw [SI_ne e7]
      exact end_q G
    have hri := riB_g (x := x) hp hst hl (show 0 ≤ 9 by omega)
    unfold vaN
    by_cases h1 : 1 ≤ l
    · rw [if_pos (Lle 1 (by omega) (by decide) h1)]
      obtain ⟨x1, c1, c2⟩ := risesWith_x hp hs hr hc hst h1 hl (show 0 ≤ 9 by omega)
      rw [show (0 : Int32) = nI 0 from rfl] at *
      rw [c1, bd_mk]
      have h' := h.of c2 (QM.refl m)
      cases q0 : riB A x c l 0
      · have e12' : x1.1 12 c = nI l := by rw [(c2.1 12 (by decide)).1]; exact e12
        have e7 : x1.1 7 (l - 1) = nI (A.nd (l - 1)) := by
          rw [(c2.1 7 (by decide)).1]; exact (hp.lv (show l - 1 < A.nl by omega)).2.2.2.1
        rw [if_pos (show b01 false = nI 0 from rfl), gI_nI (by omega) (by decide), rI_n (by omega), e12', pk_m1' (by omega), gI_nI (by omega) (by decide), rI_n (by omega), e7, lt_eq]
        obtain ⟨x2, d1, d2⟩ := risesWith_x h'.1 h'.2.1 h'.2.2.2.2.2.2.2.2 hc hst h1 hl hnd
        have er : riB A x1 c l (A.nd (l - 1)) = riB A x c l (A.nd (l - 1)) := riB_of (fun i h1 h2 => (c2.1 i (by omega)).1) (fun o _ => by rw [(c2.1 11 (by decide)).1]) (fun _ _ _ => Iff.rfl)
        rw [er] at d1
        rw [d1, bd_mk, if_neg (show ¬ (false = true ∧ 0 < A.nd (l - 1)) from fun z => by cases z.1)]
        cases q1 : riB A x c l (A.nd (l - 1))
        · rw [if_pos (show b01 false = nI 0 from rfl), if_neg (show ¬ (false = true ∧ 0 ≤ 9) from fun z => by cases z.1)]
          exact ⟨x2, _, _, rfl, rfl, c2.trans d2, hq⟩
        · rw [if_neg (show ¬ b01 true = nI 0 by decide), if_pos (show true = true ∧ 0 ≤ 9 from ⟨rfl, by decide⟩), show max 0 (A.nd (l - 1)) = A.nd (l - 1) by omega]
          exact ⟨x2, _, _, rfl, rfl, c2.trans d2, hq⟩
      · rw [if_neg (show ¬ b01 true = nI 0 by decide)]
        refine ⟨x1, _, _, rfl, ?_, c2, hq⟩
        by_cases z : 0 < A.nd (l - 1)
        · rw [if_pos ⟨rfl, z⟩]
        · rw [if_neg (fun y => z y.2)]
          rw [if_neg z, q0] at hri
          rw [← hri, if_pos ⟨rfl, by decide⟩, show max 0 (A.nd (l - 1)) = 0 by omega]
    · have l0 : l = 0 := by omega
      subst l0
      have r0 : ∀ g, riB A x c 0 g = false := fun g => by
        unfold riB upL
        rw [if_pos rfl]; simp
      rw [r0, r0, if_neg (show ¬ (1 : Int32) ≤ nI 0 by decide), if_neg (fun z => by cases z.1), if_neg (fun z => by cases z.1)]
      exact ⟨x, _, _, rfl, rfl, QX.refl _, hq⟩
  · rw [p1, p2, Option.bind_some, Option.bind_some, if_pos rfl, if_neg (fun z => z rfl)]
    exact ⟨x, m, _, rfl, rfl, QX.refl _, QM.refl _⟩
