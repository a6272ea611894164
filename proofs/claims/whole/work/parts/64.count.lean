/-! how many matches there can be; a match is told -/
theorem sumN_append (f : Nat → Nat) (n : Nat) : ∀ k, sumN f (n + k) = sumN f n + sumN (fun i => f (n + i)) k
  | 0 => rfl
  | k + 1 => by
    have := sumN_append f n k
    show sumN f (n + k) + f (n + k) = sumN f n + (sumN (fun i => f (n + i)) k + f (n + k))
    omega
theorem sumN_grid (f : Nat → Nat) (w : Nat) : ∀ h, sumN f (w * h) = sumN (fun i => sumN (fun a => f (w * i + a)) w) h
  | 0 => rfl
  | h + 1 => by
    rw [Nat.mul_succ, sumN_append, sumN_grid f w h]; rfl
theorem sumN_mono {f g : Nat → Nat} : ∀ (n : Nat), (∀ i, i < n → f i ≤ g i) → sumN f n ≤ sumN g n
  | 0, _ => Nat.le_refl _
  | n + 1, h => by
    have h1 := sumN_mono n (fun i hi => h i (by omega))
    have h2 := h n (by omega)
    simp only [sumN]; omega
theorem cnt_sum {p : Nat → Prop} {dp : ∀ i, Decidable (p i)} : ∀ n, cnt p dp n = sumN (fun i => if p i then 1 else 0) n
  | 0 => rfl
  | n + 1 => by
    have := cnt_sum (p := p) (dp := dp) n
    by_cases e : p n
    · rw [cnt_t e, this]; simp only [sumN]; rw [if_pos e]
    · rw [cnt_f e, this]; simp only [sumN]; rw [if_neg e]; rfl
/-- five others of a division at most -/
theorem five {A : Ab} {x m : llMem} (hp : IPyr A x m) {q : Nat → Bool} {h : Nat} (hh : h < 30) (hq : ∀ a, a < 30 → q a = true → a ≠ h ∧ a < A.nc ∧ h < A.nc ∧ (A.st h).isSome ∧ A.st h = A.st a) : sumN (fun a => if q a then 1 else 0) 30 ≤ 5 := by
  have hn := hp.ncB
  by_cases e : h < A.nc ∧ (A.st h).isSome
  · obtain ⟨hc, he⟩ := e
    cases hs : A.st h with
    | none => rw [hs] at he; cases he
    | some y =>
      obtain ⟨l, d⟩ := y
      obtain ⟨hl, hd⟩ := (hp.cl hc).stB l d hs
      have hF : inDiv A.st l d A.nc = A.sz l := hp.2.2.2.2.2.2.2.2.1 l d hl hd
      have hz := (hp.lv hl).2.2.2.2.2.2.2.2.2.2.2.1
      unfold inDiv at hF
      rw [cnt_sum] at hF
      have h1 : sumN (fun a => (if q a then 1 else 0) + (if a = h then 1 else 0)) 30 ≤ sumN (fun a => if a < A.nc ∧ A.st a = some (l, d) then 1 else 0) 30 := by
        refine sumN_mono 30 (fun a ha => ?_)
        by_cases g : q a = true
        · obtain ⟨g1, g2, _, _, g3⟩ := hq a ha g
          rw [if_pos g, if_neg g1, if_pos ⟨g2, by rw [← g3, hs]⟩]; omega
        · rw [if_neg g]
          by_cases g1 : a = h
          · rw [if_pos g1, if_pos ⟨by rw [g1]; exact hc, by rw [g1]; exact hs⟩]; omega
          · rw [if_neg g1]; omega
      rw [sumN_add, sumN_one hh] at h1
      have h2 : sumN (fun a => if a < A.nc ∧ A.st a = some (l, d) then 1 else 0) 30 = sumN (fun i => if A.st i = some (l, d) then 1 else 0) A.nc := by
        rw [sumN_tail (n := A.nc) 30 hn (fun i hi _ => by rw [if_neg (fun z => by omega)])]
        refine sumN_congr A.nc (fun i hi => ?_)
        by_cases g : A.st i = some (l, d)
        · rw [if_pos g, if_pos ⟨hi, g⟩]
        · rw [if_neg g, if_neg (fun z => g z.2)]
      omega
  · rw [sumN_congr (g := fun _ => 0) 30 (fun a ha => by
      cases g : q a
      · rfl
      · obtain ⟨_, _, g1, g2, _⟩ := hq a ha g
        exact absurd ⟨g1, g2⟩ e), sumN_zero]
    omega
def Prs (A : Ab) (ml : Nat → Nat × Nat) (N : Nat) : Prop := (∀ i, i < N → (ml i).1 < A.nc ∧ (ml i).2 < A.nc ∧ (ml i).1 ≠ (ml i).2 ∧ (A.st (ml i).1).isSome ∧ A.st (ml i).1 = A.st (ml i).2) ∧ ∀ i j, i < N → j < N → ml i = ml j → i = j
theorem Prs.le {A : Ab} {x m : llMem} (hp : IPyr A x m) {ml : Nat → Nat × Nat} {N : Nat} (h : Prs A ml N) : N ≤ 150 := by
  have hn := hp.ncB
  have h1 := sumN_inj (f := kf ml) (g := fun _ => 1) (N := 900) N (fun i hi => by
    have := h.1 i hi
    unfold kf; omega) (fun i k hi hk e => h.2 i k hi hk (by
    have a := h.1 i hi
    have b := h.1 k hk
    unfold kf at e
    exact Prod.ext (by omega) (by omega)))
  have e : ∀ n, sumN (fun _ => 1) n = n := fun n => by
    induction n with
    | zero => rfl
    | succ n ih => simp only [sumN]; rw [ih]
  rw [e, show 900 = 30 * 30 from rfl, sumN_grid] at h1
  have h2 := sumN_le' (f := fun i => sumN (fun a => if memF (kf ml) (30 * i + a) N then 1 else 0) 30) (s := 5) 30 (fun i hi => five hp (q := fun a => memF (kf ml) (30 * i + a) N) hi (fun a ha g => by
    obtain ⟨j, j1, j2⟩ := (memF_iff N).mp g
    obtain ⟨k1, k2, k3, k4, k5⟩ := h.1 j j1
    unfold kf at j2
    have e1 : (ml j).1 = i := by omega
    have e2 : (ml j).2 = a := by omega
    rw [e1, e2] at k3 k5
    rw [e1] at k1 k4
    rw [e2] at k2
    exact ⟨fun z => k3 z.symm, k2, k1, k4, k5⟩))
  omega
theorem IMa.prs {A : Ab} {x : llMem} {mc : Nat} {ml : Nat → Nat × Nat} (h : IMa A x mc ml) : Prs A ml mc := ⟨fun i hi => by
  obtain ⟨_, _, h1, h2, h3, h4, h5, _⟩ := h.2.2.1 i hi
  exact ⟨h1, h2, h3, h4, h5⟩, h.2.2.2.1⟩
theorem Tal.sw {u u' v v' : llMem} {c : Nat} {g t s : Int32} (h : Tal u u' c g t s) (h1 : ∀ i, i < 21 ∨ 25 < i → v'.1 i = v.1 i) (h2 : v'.2 = v.2) (h3 : ∀ i, 21 ≤ i → i ≤ 25 → v.1 i = u.1 i ∧ v'.1 i = u'.1 i) : Tal v v' c g t s := by
  refine ⟨h1, h2, fun w hw => ?_⟩
  rw [(h3 (21 + w) (by omega) (by omega)).1, (h3 (21 + w) (by omega) (by omega)).2]
  exact h.2.2 w hw
/-- what tell does -/
def Tld (A : Ab) (x x' : llMem) (mc h a g t : Nat) : Prop := (∀ i, i < 14 ∨ (17 < i ∧ i < 21) ∨ 25 < i → x'.1 i = x.1 i) ∧ x'.1 14 0 = x.1 14 0 ∧ x'.2 = x.2 ∧ x'.1 14 1 = nI (mc + 1) ∧ x'.1 15 = upd (x.1 15) mc (nI h) ∧ x'.1 16 = upd (x.1 16) mc (nI a) ∧ x'.1 17 = upd (x.1 17) (30 * h + a) (nI (100 * g + t)) ∧ ISu A x'
theorem tell_x {A : Ab} {x : llMem} {mc h a g t : Nat} (hn : A.nc ≤ 30) (hm : mc < 150) (h14 : x.1 14 1 = nI mc) (hS : ISu A x) (hh : h < A.nc) (ha : a < A.nc) (hne : h ≠ a) (hg : g ≤ 99) (ht : t ≤ 99) (hno : x.1 17 (30 * h + a) = -1) : ∃ x', fx_X7_tell_14 x (nI h) (nI a) (nI g) (nI t) = some (x', ()) ∧ Tld A x x' mc h a g t := by
  unfold fx_X7_tell_14
  have s1 : ∀ v w, (llSI x 15 mc v).1 14 w = x.1 14 w := fun v w => by rw [SI_ne (by decide)]
  have ev : nI g * 100 + nI t = nI (100 * g + t) := by rw [show (100 : Int32) = nI 100 from rfl, pk_mul, nI_add, Nat.mul_comm]
  rw [h14, if_neg (Lnle 150 (by omega) (by decide) hm), gI_nI (by omega) (by decide), nI_clamp (by omega)]
  simp only [lt_eq, SI_ne (show 14 ≠ 15 by decide), SI_ne (show 14 ≠ 16 by decide), h14, gI_nI (show mc < 150 by omega) (show 150 < 2 ^ 31 by decide), nI_clamp (show mc < 2 ^ 31 by omega), ix30, gI_nI (show 30 * h + a < 900 by omega) (show 900 < 2 ^ 31 by decide), nI_clamp (show 30 * h + a < 2 ^ 31 by omega), nI_1, ev]
  generalize hu3 : llSI (llSI (llSI x 15 mc (nI h)) 16 mc (nI a)) 14 1 (nI (mc + 1)) = u3
  have c3 : ∀ i, i < 14 ∨ 16 < i → u3.1 i = x.1 i := fun i hi => by rw [← hu3, SI_ne (by omega), SI_ne (by omega), SI_ne (by omega)]
  obtain ⟨u5, k1, k2⟩ := tally_x (llSI u3 17 (30 * h + a) (nI (100 * g + t))) (c := h) (by omega) (nI g) (nI t) 1
  obtain ⟨u6, l1, l2⟩ := tally_x u5 (c := a) (by omega) (nI t) (nI g) 1
  rw [k1, bd_mk, l1, bd_mk]
  have f6 : ∀ i, i < 21 ∨ 25 < i → u6.1 i = (llSI u3 17 (30 * h + a) (nI (100 * g + t))).1 i := fun i hi => by rw [l2.1 i hi, k2.1 i hi]
  obtain ⟨n1, n2, n3⟩ := nI_100 hg ht
  have hS3 : ISu A u3 := hS.of (fun i hi => c3 i (by omega))
  have T1 : Tal u3 (llSA u5 17 (u3.1 17)) h (nI g) (nI t) 1 := k2.sw (fun i hi => by
    by_cases e : i = 17
    · rw [e, SA_same]
    · rw [SA_ne e, k2.1 i hi, SI_ne e]) (by rw [SA_2, k2.2.1]; rfl) (fun i h1 h2 => ⟨(SI_ne (by omega)).symm, SA_ne (by omega)⟩)
  have T2 : Tal (llSA u5 17 (u3.1 17)) (llSA u6 17 (u3.1 17)) a (nI t) (nI g) 1 := l2.sw (fun i hi => by
    by_cases e : i = 17
    · rw [e, SA_same, SA_same]
    · rw [SA_ne e, SA_ne e, l2.1 i hi]) (by rw [SA_2, SA_2, l2.2.1]) (fun i h1 h2 => ⟨SA_ne (by omega), SA_ne (by omega)⟩)
  have hno3 : u3.1 17 (30 * h + a) = -1 := by rw [c3 17 (by decide)]; exact hno
  have st := hS3.step hn hh ha hne T1 T2 (v := nI (100 * g + t)) (fun w hw => by
    rw [hno3]; unfold cP; rw [if_neg n3, if_pos rfl, n1, n2]; grind) (fun w hw => by
    rw [hno3]; unfold cA; rw [if_neg n3, if_pos rfl, n1, n2]; grind)
  have x17 : u6.1 17 = upd (x.1 17) (30 * h + a) (nI (100 * g + t)) := by rw [f6 17 (by decide), SI_same, c3 17 (by decide)]
  refine ⟨u6, rfl, fun i hi => ?_, ?_, ?_, ?_, ?_, ?_, x17, st.of (fun i hi => ?_)⟩
  · rw [f6 i (by omega), SI_ne (by omega), c3 i (by omega)]
  · rw [f6 14 (by decide), SI_ne (by decide), ← hu3, SI_at (by decide), SI_ne (by decide), SI_ne (by decide)]
  · rw [l2.2.1, k2.2.1, ← hu3]; rfl
  · rw [f6 14 (by decide), SI_ne (by decide), ← hu3, SI_same, upd_same]
  · rw [f6 15 (by decide), SI_ne (by decide), ← hu3, SI_ne (by decide), SI_ne (by decide), SI_same]
  · rw [f6 16 (by decide), SI_ne (by decide), ← hu3, SI_ne (by decide), SI_same, SI_ne (by decide)]
  · rcases hi with rfl | hi
    · rw [x17, SI_same, SA_same, c3 17 (by decide)]
    · rw [SI_ne (by omega), SA_ne (by omega)]
theorem IMa.tell {A : Ab} {x x' m : llMem} (hp : IPyr A x m) {mc h a g t : Nat} {ml : Nat → Nat × Nat} (hM : IMa A x mc ml) (hT : Tld A x x' mc h a g t) (hh : h < A.nc) (ha : a < A.nc) (hne : h ≠ a) (hs : (A.st h).isSome) (hs2 : A.st h = A.st a) (hg : g ≤ 99) (ht : t ≤ 99) (hno : x.1 17 (30 * h + a) = -1) : IMa A x' (mc + 1) (upF ml mc (h, a)) ∧ (∀ i, i < mc → upF ml mc (h, a) i = ml i) ∧ ∀ i, i < mc → x'.1 17 (30 * (ml i).1 + (ml i).2) = x.1 17 (30 * (ml i).1 + (ml i).2) := by
  have hn := hp.ncB
  obtain ⟨m1, m2, m3, m4, m5⟩ := id hM
  obtain ⟨t1, t2, t3, t4, t5, t6, t7, t8⟩ := hT
  have new : ∀ i, i < mc → ml i ≠ (h, a) := fun i hi e => by
    obtain ⟨_, _, _, _, _, _, _, g', t', _, _, q⟩ := m3 i hi
    rw [e, hno] at q
    exact nI_nm1 (show 100 * g' + t' < 2 ^ 31 by omega) q.symm
  have un : ∀ i, i < mc → upF ml mc (h, a) i = ml i := fun i hi => upF_ne (by omega)
  have keep : ∀ i, i < mc → x'.1 17 (30 * (ml i).1 + (ml i).2) = x.1 17 (30 * (ml i).1 + (ml i).2) := fun i hi => by
    obtain ⟨_, _, b3, b4, _⟩ := m3 i hi
    rw [t7, upd_ne]
    intro e
    exact new i hi (Prod.ext (by show (ml i).1 = h; omega) (by show (ml i).2 = a; omega))
  have pr : Prs A (upF ml mc (h, a)) (mc + 1) := by
    refine ⟨fun i hi => ?_, fun i j hi hj e => ?_⟩
    · by_cases e : i = mc
      · subst e; rw [upF_same]; exact ⟨hh, ha, hne, hs, hs2⟩
      · rw [un i (by omega)]; exact hM.prs.1 i (by omega)
    · by_cases e1 : i = mc
      · by_cases e2 : j = mc
        · omega
        · rw [e1, upF_same, un j (by omega)] at e
          exact absurd e.symm (new j (by omega))
      · by_cases e2 : j = mc
        · rw [e2, upF_same, un i (by omega)] at e
          exact absurd e (new i (by omega))
        · rw [un i (by omega), un j (by omega)] at e
          exact m4 i j (by omega) (by omega) e
  refine ⟨⟨pr.le hp, t4, fun i hi => ?_, pr.2, fun h' a' hh' ha' hno' => ?_⟩, un, keep⟩
  · obtain ⟨p1, p2, p3, p4, p5⟩ := pr.1 i hi
    by_cases e : i = mc
    · subst e
      rw [upF_same] at p1 p2 p3 p4 p5 ⊢
      refine ⟨by rw [t5, upd_same], by rw [t6, upd_same], p1, p2, p3, p4, p5, g, t, hg, ht, ?_⟩
      rw [t7, upd_same]
    · have hi' : i < mc := by omega
      obtain ⟨b1, b2, b3, b4, b5, b6, b7, g', t', b8, b9, b10⟩ := m3 i hi'
      rw [un i hi', t5, t6, upd_ne e, upd_ne e]
      exact ⟨b1, b2, b3, b4, b5, b6, b7, g', t', b8, b9, by rw [keep i hi']; exact b10⟩
  · have q := hno' mc (by omega)
    rw [upF_same] at q
    rw [t7, upd_ne]
    · exact m5 h' a' hh' ha' (fun i hi e => hno' i (by omega) (by rw [un i hi]; exact e))
    · intro e
      exact q (Prod.ext (by show h = h'; omega) (by show a = a'; omega))
