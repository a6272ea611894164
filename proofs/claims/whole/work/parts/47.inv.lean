/-! THE INVARIANT of the class's memory x (cells 1 .. 68) and the reference's m (69 .. 100) -/
/-- a pyramid: levels, clubs, divisions of a level, size, down, need, places x and y, names, where a club stands, who has gone, miles -/
abbrev Ab := Nat × Nat × (Nat → Nat) × (Nat → Nat) × (Nat → Nat) × (Nat → Nat) × (Nat → Nat) × (Nat → Nat) × (Nat → List Nat) × (Nat → Option (Nat × Nat)) × (Nat → Bool) × (Nat → Nat → Nat)
abbrev Ab.nl (A : Ab) : Nat := A.1
abbrev Ab.nc (A : Ab) : Nat := A.2.1
abbrev Ab.dv (A : Ab) : Nat → Nat := A.2.2.1
abbrev Ab.sz (A : Ab) : Nat → Nat := A.2.2.2.1
abbrev Ab.dn (A : Ab) : Nat → Nat := A.2.2.2.2.1
abbrev Ab.nd (A : Ab) : Nat → Nat := A.2.2.2.2.2.1
abbrev Ab.cx (A : Ab) : Nat → Nat := A.2.2.2.2.2.2.1
abbrev Ab.cy (A : Ab) : Nat → Nat := A.2.2.2.2.2.2.2.1
abbrev Ab.ws (A : Ab) : Nat → List Nat := A.2.2.2.2.2.2.2.2.1
abbrev Ab.st (A : Ab) : Nat → Option (Nat × Nat) := A.2.2.2.2.2.2.2.2.2.1
abbrev Ab.gone (A : Ab) : Nat → Bool := A.2.2.2.2.2.2.2.2.2.2.1
abbrev Ab.mi (A : Ab) : Nat → Nat → Nat := A.2.2.2.2.2.2.2.2.2.2.2
/-- the level's number as both keep it; the division's -/
def lvI (A : Ab) (c : Nat) : Int32 := match A.st c with
  | some (l, _) => nI l
  | none => if A.gone c then -2 else -1
def dvI (A : Ab) (c : Nat) : Int32 := match A.st c with
  | some (_, d) => nI d
  | none => -1
def ILv (A : Ab) (x m : llMem) (l : Nat) : Prop := x.1 4 l = nI (A.dv l) ∧ x.1 5 l = nI (A.sz l) ∧ x.1 6 l = nI (A.dn l) ∧ x.1 7 l = nI (A.nd l) ∧ m.1 70 (4 * l) = nI (A.dv l) ∧ m.1 70 (4 * l + 1) = nI (A.sz l) ∧ m.1 70 (4 * l + 2) = nI (A.dn l) ∧ m.1 70 (4 * l + 3) = nI (A.nd l) ∧ 1 ≤ A.dv l ∧ A.dv l ≤ 3 ∧ 2 ≤ A.sz l ∧ A.sz l ≤ 6 ∧ A.dv l * A.sz l ≤ 12 ∧ A.dn l ≤ 6 ∧ A.nd l ≤ 9
def ICl (A : Ab) (x m : llMem) (c : Nat) : Prop := x.1 9 c = nI (A.cx c) ∧ x.1 10 c = nI (A.cy c) ∧ m.1 72 c = nI (A.cx c) ∧ m.1 73 c = nI (A.cy c) ∧ A.cx c ≤ 99 ∧ A.cy c ≤ 99 ∧ okN (A.ws c) ∧ x.2.1 8 c = lN (p8 (A.ws c)) ∧ m.2.1 71 c = lN (p5 (A.ws c)) ∧ x.1 12 c = lvI A c ∧ m.1 74 c = lvI A c ∧ x.1 13 c = dvI A c ∧ m.1 75 c = dvI A c ∧ ∀ l d, A.st c = some (l, d) → l < A.nl ∧ d < A.dv l
def IMi (A : Ab) (x : llMem) : Prop := ∀ a b, a < A.nc → b < A.nc → isRoot (sqd (A.cx a) (A.cx b) + sqd (A.cy a) (A.cy b)) (A.mi a b) ∧ x.1 49 (30 * a + b) = nI (A.mi a b)
def IPyr (A : Ab) (x m : llMem) : Prop := A.nl ≤ 4 ∧ x.1 3 0 = nI A.nl ∧ m.1 69 1 = nI A.nl ∧ (∀ l, l < A.nl → ILv A x m l) ∧ A.nc ≤ 30 ∧ x.1 3 5 = nI A.nc ∧ m.1 69 9 = nI A.nc ∧ (∀ c, c < A.nc → ICl A x m c) ∧ FullSt A.nl A.nc A.dv A.sz A.st ∧ IMi A x
/-- what is told of a club for this season -/
def INw (x m : llMem) (c : Nat) : Prop := (∃ g, g ≤ 9 ∧ x.1 11 c = nI g) ∧ (x.1 18 c = 0 ∨ x.1 18 c = 1) ∧ (x.1 19 c = 0 ∨ x.1 19 c = 1) ∧ (∃ g, g ≤ 999 ∧ x.1 20 c = nI g) ∧ m.1 77 c = x.1 11 c ∧ m.1 77 (30 + c) = x.1 18 c ∧ m.1 77 (60 + c) = x.1 19 c ∧ m.1 77 (90 + c) = x.1 20 c
/-- the matches told, in their order -/
def IMa (A : Ab) (x : llMem) (mc : Nat) (ml : Nat → Nat × Nat) : Prop := mc ≤ 150 ∧ x.1 14 1 = nI mc ∧ (∀ i, i < mc → x.1 15 i = nI (ml i).1 ∧ x.1 16 i = nI (ml i).2 ∧ (ml i).1 < A.nc ∧ (ml i).2 < A.nc ∧ (ml i).1 ≠ (ml i).2 ∧ (A.st (ml i).1).isSome ∧ A.st (ml i).1 = A.st (ml i).2 ∧ ∃ g t, g ≤ 99 ∧ t ≤ 99 ∧ x.1 17 (30 * (ml i).1 + (ml i).2) = nI (100 * g + t)) ∧ (∀ i j, i < mc → j < mc → ml i = ml j → i = j) ∧ ∀ h a, h < 30 → a < 30 → (∀ i, i < mc → ml i ≠ (h, a)) → x.1 17 (30 * h + a) = -1
def ISu (A : Ab) (x : llMem) : Prop := ∀ c, c < 30 → x.1 21 c = sumW (x.1 17) A.nc c 0 ∧ x.1 22 c = sumW (x.1 17) A.nc c 1 ∧ x.1 23 c = sumW (x.1 17) A.nc c 2 ∧ x.1 24 c = sumW (x.1 17) A.nc c 3 ∧ x.1 25 c = sumW (x.1 17) A.nc c 4
def ISea (A : Ab) (x m : llMem) (mc : Nat) (ml : Nat → Nat × Nat) : Prop := (∀ c, c < A.nc → INw x m c) ∧ (∀ k, k < 900 → m.1 77 (120 + k) = x.1 17 k) ∧ IMa A x mc ml ∧ ISu A x
/-- a block of the past, or now -/
def blkM (m : llMem) (k j : Nat) (e : Nat) : Int32 := if j < k then m.1 78 (1020 * j + e) else m.1 77 e
def IDe (A : Ab) (x m : llMem) (mc : Nat) (ml : Nat → Nat × Nat) (k : Nat) (cj : Nat → Nat) : Prop := k ≤ 8 ∧ x.1 26 2 = nI k ∧ m.1 69 14 = nI k ∧ cj k = mc ∧ ∀ j, j < k →
  ((x.1 27 j = 0 ∧ x.1 29 j = nI (cj j) ∧ cj j ≤ cj (j + 1) ∧ (∀ e, e < 120 → blkM m k j e = blkM m k (j + 1) e) ∧ ∀ h a, h < 30 → a < 30 → blkM m k j (120 + (30 * h + a)) = if ∃ i, i < cj j ∧ ml i = (h, a) then blkM m k (j + 1) (120 + (30 * h + a)) else -1) ∨
   (∃ c, c < A.nc ∧ x.1 28 j = nI c ∧ cj j = cj (j + 1) ∧
    ((x.1 27 j = 1 ∧ blkM m k j (30 + c) = 0 ∧ ∀ e, e < 1020 → e ≠ 30 + c → blkM m k j e = blkM m k (j + 1) e) ∨
     (x.1 27 j = 2 ∧ blkM m k j (60 + c) = 0 ∧ ∀ e, e < 1020 → e ≠ 60 + c → blkM m k j e = blkM m k (j + 1) e) ∨
     (x.1 27 j = 3 ∧ blkM m k j (90 + c) = blkM m k (j + 1) (90 + c) - x.1 29 j ∧ (∃ g, g ≤ 999 ∧ blkM m k j (90 + c) = nI g) ∧ ∀ e, e < 1020 → e ≠ 90 + c → blkM m k j e = blkM m k (j + 1) e) ∨
     (x.1 27 j = 4 ∧ blkM m k j c = x.1 29 j ∧ (∃ g, g ≤ 9 ∧ x.1 29 j = nI g) ∧ ∀ e, e < 1020 → e ≠ c → blkM m k j e = blkM m k (j + 1) e))))
/-- ways to part a level: as many of a list, in its order; divisions by their least; the first of the fewest miles -/
def combos : Nat → List Nat → List (List Nat)
  | 0, _ => [[]]
  | _ + 1, [] => []
  | k + 1, a :: l => (combos k l).map (fun b => a :: b) ++ combos (k + 1) l
def blocks (s : Nat) : Nat → List Nat → List (List (List Nat))
  | 0, _ => [[]]
  | _ + 1, [] => []
  | D + 1, a :: t => (combos (s - 1) t).flatMap (fun b => (blocks s D (t.filter (fun z => !(b.contains z)))).map (fun P => (a :: b) :: P))
def pairSum (f : Nat → Nat → Nat) : List Nat → Nat
  | [] => 0
  | a :: l => (l.map (f a)).sum + pairSum f l
def costP (f : Nat → Nat → Nat) (P : List (List Nat)) : Nat := (P.map (pairSum f)).sum
def firstMin {α : Type} (c : α → Nat) : List α → Option α
  | [] => none
  | p :: l => some (l.foldl (fun b q => if c q < c b then q else b) p)
def rowOf (A : Ab) (l : Nat) : List Nat := (List.range A.nc).filter (fun c => decide ((A.st c).map Prod.fst = some l))
def miR (A : Ab) (l a b : Nat) : Nat := A.mi ((rowOf A l).getD a 0) ((rowOf A l).getD b 0)
def bestP (A : Ab) (l : Nat) : Option (List (List Nat)) := firstMin (costP (miR A l)) (blocks (A.sz l) (A.dv l) (List.range (A.dv l * A.sz l)))
def ixP (P : List (List Nat)) (a : Nat) : Nat := P.findIdx (fun b => b.contains a)
/-- what the class has found of a level: if it is known -/
def ICa (A : Ab) (x : llMem) : Prop := x.1 60 0 = 0 ∧ ∀ l, l < A.nl → x.1 53 l = 0 ∨ ∃ P, bestP A l = some P ∧ x.1 54 l = nI (costP (miR A l) P) ∧ ∀ a, a < A.dv l * A.sz l → x.1 55 ((rowOf A l).getD a 0) = nI (ixP P a)
def ISh (x m : llMem) : Prop := ∃ n, n ≤ 96 ∧ x.1 43 6 = nI n ∧ m.1 69 53 = nI n ∧ ∀ k, k < n → m.1 100 k = x.1 47 k
def ITp (x m : llMem) : Prop := ∃ bb n, TX x bb n ∧ TM m bb n
def IFa (x m : llMem) : Prop := m.1 69 17 = x.1 1 7 ∧ m.1 69 18 = x.1 1 8
/-- who has resigned stands in a division -/
def IRe (A : Ab) (x : llMem) : Prop := ∀ c, c < A.nc → x.1 18 c = 1 → (A.st c).isSome
def InvA (A : Ab) (x m : llMem) (mc : Nat) (ml : Nat → Nat × Nat) (k : Nat) (cj : Nat → Nat) : Prop := IPyr A x m ∧ ISea A x m mc ml ∧ IDe A x m mc ml k cj ∧ ICa A x ∧ ISh x m ∧ ITp x m ∧ IFa x m ∧ m.1 69 11 = x.1 14 0 ∧ IRe A x
def Inv (x m : llMem) : Prop := ∃ A mc ml k cj, InvA A x m mc ml k cj
/-! what a question leaves as it was -/
def QX (x x' : llMem) : Prop := (∀ c, c < 31 ∨ c = 47 ∨ c = 49 ∨ c = 53 ∨ c = 54 ∨ c = 55 ∨ c = 60 ∨ 69 ≤ c → x'.1 c = x.1 c ∧ x'.2.1 c = x.2.1 c) ∧ x'.1 43 6 = x.1 43 6
def QM (m m' : llMem) : Prop := (∀ c, c < 69 ∨ (70 ≤ c ∧ c < 80) ∨ c = 100 → m'.1 c = m.1 c ∧ m'.2.1 c = m.2.1 c) ∧ ∀ k, k ∈ [1, 9, 11, 14, 16, 17, 18, 53] → m'.1 69 k = m.1 69 k
theorem QX.refl (x : llMem) : QX x x := ⟨fun _ _ => ⟨rfl, rfl⟩, rfl⟩
theorem QM.refl (x : llMem) : QM x x := ⟨fun _ _ => ⟨rfl, rfl⟩, fun _ _ => rfl⟩
theorem QX.trans {a b c : llMem} (h1 : QX a b) (h2 : QX b c) : QX a c := ⟨fun i hi => ⟨(h2.1 i hi).1.trans (h1.1 i hi).1, (h2.1 i hi).2.trans (h1.1 i hi).2⟩, h2.2.trans h1.2⟩
theorem QM.trans {a b c : llMem} (h1 : QM a b) (h2 : QM b c) : QM a c := ⟨fun i hi => ⟨(h2.1 i hi).1.trans (h1.1 i hi).1, (h2.1 i hi).2.trans (h1.1 i hi).2⟩, fun k hk => (h2.2 k hk).trans (h1.2 k hk)⟩
theorem IPyr.of {A : Ab} {x m x' m' : llMem} (h : IPyr A x m) (hx : ∀ c, c ∈ [3, 4, 5, 6, 7, 8, 9, 10, 12, 13, 49] → x'.1 c = x.1 c ∧ x'.2.1 c = x.2.1 c) (hm : ∀ c, c ∈ [70, 71, 72, 73, 74, 75] → m'.1 c = m.1 c ∧ m'.2.1 c = m.2.1 c) (h1 : m'.1 69 1 = m.1 69 1) (h9 : m'.1 69 9 = m.1 69 9) : IPyr A x' m' := by
  unfold IPyr ILv ICl IMi at h ⊢
  rw [(hx 3 (by simp)).1, (hx 4 (by simp)).1, (hx 5 (by simp)).1, (hx 6 (by simp)).1, (hx 7 (by simp)).1, (hx 8 (by simp)).2, (hx 9 (by simp)).1, (hx 10 (by simp)).1, (hx 12 (by simp)).1, (hx 13 (by simp)).1, (hx 49 (by simp)).1, (hm 70 (by simp)).1, (hm 71 (by simp)).2, (hm 72 (by simp)).1, (hm 73 (by simp)).1, (hm 74 (by simp)).1, (hm 75 (by simp)).1, h1, h9]
  exact h
theorem ISea.of {A : Ab} {x m x' m' : llMem} {mc : Nat} {ml : Nat → Nat × Nat} (h : ISea A x m mc ml) (hx : ∀ c, c ∈ [11, 15, 16, 17, 18, 19, 20, 21, 22, 23, 24, 25] → x'.1 c = x.1 c) (h14 : x'.1 14 1 = x.1 14 1) (hm : m'.1 77 = m.1 77) : ISea A x' m' mc ml := by
  unfold ISea INw IMa ISu at h ⊢
  rw [hx 11 (by simp), hx 15 (by simp), hx 16 (by simp), hx 17 (by simp), hx 18 (by simp), hx 19 (by simp), hx 20 (by simp), hx 21 (by simp), hx 22 (by simp), hx 23 (by simp), hx 24 (by simp), hx 25 (by simp), h14, hm]
  exact h
theorem IDe.of {A : Ab} {x m x' m' : llMem} {mc : Nat} {ml : Nat → Nat × Nat} {k : Nat} {cj : Nat → Nat} (h : IDe A x m mc ml k cj) (hx : ∀ c, c ∈ [27, 28, 29] → x'.1 c = x.1 c) (h26 : x'.1 26 2 = x.1 26 2) (h77 : m'.1 77 = m.1 77) (h78 : m'.1 78 = m.1 78) (h14 : m'.1 69 14 = m.1 69 14) : IDe A x' m' mc ml k cj := by
  unfold IDe blkM at h ⊢
  rw [hx 27 (by simp), hx 28 (by simp), hx 29 (by simp), h26, h77, h78, h14]
  exact h
theorem InvA.of {A : Ab} {x m x' m' : llMem} {mc : Nat} {ml : Nat → Nat × Nat} {k : Nat} {cj : Nat → Nat} (h : InvA A x m mc ml k cj) (hx : QX x x') (hm : QM m m') : InvA A x' m' mc ml k cj := by
  obtain ⟨h1, h2, h3, h4, h5, h6, h7, h8, h9⟩ := h
  have xx : ∀ c, c < 31 → x'.1 c = x.1 c ∧ x'.2.1 c = x.2.1 c := fun c hc => hx.1 c (Or.inl hc)
  have mm : ∀ c, 70 ≤ c → c < 80 → m'.1 c = m.1 c ∧ m'.2.1 c = m.2.1 c := fun c hc hd => hm.1 c (Or.inr (Or.inl ⟨hc, hd⟩))
  refine ⟨h1.of (fun c hc => ?_) (fun c hc => ?_) (hm.2 1 (by simp)) (hm.2 9 (by simp)), h2.of (fun c hc => ?_) (by rw [(xx 14 (by decide)).1]) (mm 77 (by decide) (by decide)).1, h3.of (fun c hc => ?_) (by rw [(xx 26 (by decide)).1]) (mm 77 (by decide) (by decide)).1 (mm 78 (by decide) (by decide)).1 (hm.2 14 (by simp)), ?_, ?_, ?_, ?_, ?_, ?_⟩
  · simp only [List.mem_cons, List.not_mem_nil, or_false] at hc
    exact hx.1 c (by omega)
  · simp only [List.mem_cons, List.not_mem_nil, or_false] at hc
    exact mm c (by omega) (by omega)
  · simp only [List.mem_cons, List.not_mem_nil, or_false] at hc
    exact (xx c (by omega)).1
  · simp only [List.mem_cons, List.not_mem_nil, or_false] at hc
    exact (xx c (by omega)).1
  · unfold ICa at h4 ⊢
    rw [(hx.1 53 (by simp)).1, (hx.1 54 (by simp)).1, (hx.1 55 (by simp)).1, (hx.1 60 (by simp)).1]
    exact h4
  · unfold ISh at h5 ⊢
    rw [hx.2, (hx.1 47 (by simp)).1, hm.2 53 (by simp), (hm.1 100 (by simp)).1]
    exact h5
  · unfold ITp TX TM at h6 ⊢
    rw [(xx 1 (by decide)).1, (xx 2 (by decide)).1, hm.2 16 (by simp), (mm 79 (by decide) (by decide)).1]
    exact h6
  · unfold IFa at h7 ⊢
    rw [(xx 1 (by decide)).1, hm.2 17 (by simp), hm.2 18 (by simp)]
    exact h7
  · rw [hm.2 11 (by simp), (xx 14 (by decide)).1]
    exact h8
  · unfold IRe at h9 ⊢
    rw [(xx 18 (by decide)).1]
    exact h9
theorem Inv.of {x m x' m' : llMem} (h : Inv x m) (hx : QX x x') (hm : QM m m') : Inv x' m' := by
  obtain ⟨A, mc, ml, k, cj, h⟩ := h
  exact ⟨A, mc, ml, k, cj, h.of hx hm⟩
/-- the class leaves the reference's cells, the reference the class's -/
def OX (x x' : llMem) : Prop := ∀ c, 69 ≤ c → x'.1 c = x.1 c ∧ x'.2.1 c = x.2.1 c
def OM (m m' : llMem) : Prop := ∀ c, c < 69 → m'.1 c = m.1 c ∧ m'.2.1 c = m.2.1 c
theorem OX.refl (x : llMem) : OX x x := fun _ _ => ⟨rfl, rfl⟩
theorem OM.refl (x : llMem) : OM x x := fun _ _ => ⟨rfl, rfl⟩
theorem OX.trans {a b c : llMem} (h1 : OX a b) (h2 : OX b c) : OX a c := fun i hi => ⟨(h2 i hi).1.trans (h1 i hi).1, (h2 i hi).2.trans (h1 i hi).2⟩
theorem OM.trans {a b c : llMem} (h1 : OM a b) (h2 : OM b c) : OM a c := fun i hi => ⟨(h2 i hi).1.trans (h1 i hi).1, (h2 i hi).2.trans (h1 i hi).2⟩
theorem QX.ox {x x' : llMem} (h : QX x x') : OX x x' := fun c hc => h.1 c (by omega)
theorem QM.om {x x' : llMem} (h : QM x x') : OM x x' := fun c hc => h.1 c (Or.inl hc)
theorem InvA.sw {A : Ab} {x m x' m' : llMem} {mc : Nat} {ml : Nat → Nat × Nat} {k : Nat} {cj : Nat → Nat} (h : InvA A x m mc ml k cj) (hx : ∀ c, c < 69 → x'.1 c = x.1 c ∧ x'.2.1 c = x.2.1 c) (hm : ∀ c, 69 ≤ c → m'.1 c = m.1 c ∧ m'.2.1 c = m.2.1 c) : InvA A x' m' mc ml k cj := by
  obtain ⟨h1, h2, h3, h4, h5, h6, h7, h8, h9⟩ := h
  have m69 := (hm 69 (by decide)).1
  refine ⟨h1.of (fun c hc => ?_) (fun c hc => ?_) (by rw [m69]) (by rw [m69]), h2.of (fun c hc => ?_) (by rw [(hx 14 (by decide)).1]) (hm 77 (by decide)).1, h3.of (fun c hc => ?_) (by rw [(hx 26 (by decide)).1]) (hm 77 (by decide)).1 (hm 78 (by decide)).1 (by rw [m69]), ?_, ?_, ?_, ?_, ?_, ?_⟩
  · simp only [List.mem_cons, List.not_mem_nil, or_false] at hc
    exact hx c (by omega)
  · simp only [List.mem_cons, List.not_mem_nil, or_false] at hc
    exact hm c (by omega)
  · simp only [List.mem_cons, List.not_mem_nil, or_false] at hc
    exact (hx c (by omega)).1
  · simp only [List.mem_cons, List.not_mem_nil, or_false] at hc
    exact (hx c (by omega)).1
  · unfold ICa at h4 ⊢
    rw [(hx 53 (by simp)).1, (hx 54 (by simp)).1, (hx 55 (by simp)).1, (hx 60 (by simp)).1]
    exact h4
  · unfold ISh at h5 ⊢
    rw [(hx 43 (by decide)).1, (hx 47 (by decide)).1, m69, (hm 100 (by decide)).1]
    exact h5
  · unfold ITp TX TM at h6 ⊢
    rw [(hx 1 (by decide)).1, (hx 2 (by decide)).1, m69, (hm 79 (by decide)).1]
    exact h6
  · unfold IFa at h7 ⊢
    rw [(hx 1 (by decide)).1, m69]
    exact h7
  · rw [m69, (hx 14 (by decide)).1]
    exact h8
  · unfold IRe at h9 ⊢
    rw [(hx 18 (by decide)).1]
    exact h9
theorem Inv.sw {x m x' m' : llMem} (h : Inv x m) (hx : ∀ c, c < 69 → x'.1 c = x.1 c ∧ x'.2.1 c = x.2.1 c) (hm : ∀ c, 69 ≤ c → m'.1 c = m.1 c ∧ m'.2.1 c = m.2.1 c) : Inv x' m' := by
  obtain ⟨A, mc, ml, k, cj, h⟩ := h
  exact ⟨A, mc, ml, k, cj, h.sw hx hm⟩
/-- a method of both, in step -/
def Step {α : Type} (F G : llMem → Option (llMem × α)) : Prop := ∀ x m, Inv x m → ∃ x' m' r, F x = some (x', r) ∧ G m = some (m', r) ∧ Inv x' m' ∧ OX x x' ∧ OM m m'
theorem Step.use {α : Type} {F G : llMem → Option (llMem × α)} (h : Step F G) (u : llMem) (hu : Inv u u) : ∃ u1 u2 r, F u = some (u1, r) ∧ G u1 = some (u2, r) ∧ Inv u2 u2 := by
  obtain ⟨x', m', r, h1, h2, h3, h4, h5⟩ := h u u hu
  obtain ⟨x2, m2, r2, g1, g2, g3, g4, g5⟩ := h u x' (hu.sw (fun _ _ => ⟨rfl, rfl⟩) h4)
  rw [h1] at g1
  injection g1 with g1
  injection g1 with e1 e2
  subst e1; subst e2
  exact ⟨x', m2, r, h1, g2, g3.sw g5 (fun _ _ => ⟨rfl, rfl⟩)⟩
