/-! THE INVARIANT between the class's cells (1 .. 68) and the reference's (69 .. 100) -/
/-- letters a .. z as 0 .. 25, one to seven -/
def okW (w : List Nat) : Prop := 1 ≤ w.length ∧ w.length ≤ 7 ∧ ∀ a ∈ w, a < 26
def p8 (w : List Nat) : Nat := w.foldl (fun s a => s * 256 + (97 + a)) 0
def p5 (w : List Nat) : Nat := w.foldl (fun s a => s * 32 + (a + 1)) 0
def hiG (s : Int32) : Int32 := s / 100
def loG (s : Int32) : Int32 := s - s / 100 * 100
def part (own theirs : Int32) (what : Nat) : Int32 := match what with
  | 0 => 1
  | 1 => if theirs < own then 1 else 0
  | 2 => if own = theirs then 1 else 0
  | 3 => own
  | _ => theirs
/-- of a club what 0 matches, 1 won, 2 drawn, 3 goals, 4 against, out of the matrix of scores -/
def sumW (sc : Nat → Int32) (nc c what : Nat) : Int32 := sumI (fun o => (if sc (30 * c + o) = -1 then 0 else part (hiG (sc (30 * c + o))) (loG (sc (30 * c + o))) what) + (if sc (30 * o + c) = -1 then 0 else part (loG (sc (30 * o + c))) (hiG (sc (30 * o + c))) what)) nc
/-- the tape: n bytes -/
def ITape (u : llMem) (n : Nat) : Prop := n ≤ 700 ∧ u.1 1 1 = nI n ∧ u.1 69 16 = nI n ∧ ∀ k, k < n → u.1 79 k = u.1 2 k ∧ ∃ b, b < 256 ∧ u.1 2 k = nI b
def IFault (u : llMem) : Prop := u.1 69 17 = u.1 1 7 ∧ u.1 69 18 = u.1 1 8
/-- levels -/
def ILev (u : llMem) (nl : Nat) (dv sz dn nd : Nat → Nat) : Prop := nl ≤ 4 ∧ u.1 3 0 = nI nl ∧ u.1 69 1 = nI nl ∧ ∀ l, l < nl → u.1 4 l = nI (dv l) ∧ u.1 5 l = nI (sz l) ∧ u.1 6 l = nI (dn l) ∧ u.1 7 l = nI (nd l) ∧ u.1 70 (4 * l) = nI (dv l) ∧ u.1 70 (4 * l + 1) = nI (sz l) ∧ u.1 70 (4 * l + 2) = nI (dn l) ∧ u.1 70 (4 * l + 3) = nI (nd l) ∧ 1 ≤ dv l ∧ dv l ≤ 3 ∧ 2 ≤ sz l ∧ sz l ≤ 6 ∧ dv l * sz l ≤ 12 ∧ dn l ≤ 6 ∧ nd l ≤ 9
/-- clubs: what was told of them; where they stand: pl c = some (level, division), or none with lw c: waits (true) or gone -/
def IClub (u : llMem) (nl nc : Nat) (dv : Nat → Nat) (cx cy : Nat → Nat) (st : Nat → Option (Nat × Nat)) (gone : Nat → Bool) : Prop := nc ≤ 30 ∧ u.1 3 5 = nI nc ∧ u.1 69 9 = nI nc ∧ ∀ c, c < nc → u.1 9 c = nI (cx c) ∧ u.1 10 c = nI (cy c) ∧ u.1 72 c = nI (cx c) ∧ u.1 73 c = nI (cy c) ∧ cx c ≤ 99 ∧ cy c ≤ 99 ∧ (∃ w, okW w ∧ u.2.1 8 c = lN (p8 w) ∧ u.2.1 71 c = lN (p5 w)) ∧ u.1 74 c = u.1 12 c ∧ u.1 75 c = u.1 13 c ∧
  (match st c with
    | some (l, d) => l < nl ∧ d < dv l ∧ u.1 12 c = nI l ∧ u.1 13 c = nI d
    | none => u.1 12 c = (if gone c then -2 else -1) ∧ u.1 13 c = -1)
/-- how many of the first n stand in a division -/
def inDiv (st : Nat → Option (Nat × Nat)) (l d : Nat) : Nat → Nat := cnt (fun c => st c = some (l, d)) (fun _ => inferInstance)
def IFull (nl nc : Nat) (dv sz : Nat → Nat) (st : Nat → Option (Nat × Nat)) : Prop := ∀ l d, l < nl → d < dv l → inDiv st l d nc = sz l
/-- grades, and what was told for this season -/
def INow (u : llMem) (nc : Nat) : Prop := (∀ c, c < nc → (∃ g, g ≤ 9 ∧ u.1 11 c = nI g) ∧ (u.1 18 c = 0 ∨ u.1 18 c = 1) ∧ (u.1 19 c = 0 ∨ u.1 19 c = 1) ∧ (∃ g, g ≤ 999 ∧ u.1 20 c = nI g) ∧ u.1 77 c = u.1 11 c ∧ u.1 77 (30 + c) = u.1 18 c ∧ u.1 77 (60 + c) = u.1 19 c ∧ u.1 77 (90 + c) = u.1 20 c) ∧ ∀ k, k < 900 → u.1 77 (120 + k) = u.1 17 k
/-- matches told, in their order: (home, away) -/
def IMatch (u : llMem) (nc m : Nat) (st : Nat → Option (Nat × Nat)) (ml : Nat → Nat × Nat) : Prop := m ≤ 150 ∧ u.1 14 1 = nI m ∧ (∀ i, i < m → u.1 15 i = nI (ml i).1 ∧ u.1 16 i = nI (ml i).2 ∧ (ml i).1 < nc ∧ (ml i).2 < nc ∧ (ml i).1 ≠ (ml i).2 ∧ (st (ml i).1).isSome ∧ st (ml i).1 = st (ml i).2 ∧ ∃ g t, g ≤ 99 ∧ t ≤ 99 ∧ u.1 17 (30 * (ml i).1 + (ml i).2) = nI (100 * g + t)) ∧ (∀ i j, i < m → j < m → ml i = ml j → i = j) ∧ ∀ h a, h < 30 → a < 30 → (∀ i, i < m → ml i ≠ (h, a)) → u.1 17 (30 * h + a) = -1
def ISum (u : llMem) (nc : Nat) : Prop := ∀ c, c < nc → u.1 21 c = sumW (u.1 17) nc c 0 ∧ u.1 22 c = sumW (u.1 17) nc c 1 ∧ u.1 23 c = sumW (u.1 17) nc c 2 ∧ u.1 24 c = sumW (u.1 17) nc c 3 ∧ u.1 25 c = sumW (u.1 17) nc c 4
/-- sums of clubs that aren't there -/
def ISum0 (u : llMem) (nc : Nat) : Prop := ∀ c, nc ≤ c → c < 30 → u.1 21 c = 0 ∧ u.1 22 c = 0 ∧ u.1 23 c = 0 ∧ u.1 24 c = 0 ∧ u.1 25 c = 0
/-- the place in the past, or now -/
def blk (u : llMem) (k j : Nat) (e : Nat) : Int32 := if j < k then u.1 78 (1020 * j + e) else u.1 77 e
/-- what can be undone: deed j leads from block j to block j + 1 (the k-th is now); cj j: how many matches there were -/
def IDeeds (u : llMem) (nc m k : Nat) (ml : Nat → Nat × Nat) (cj : Nat → Nat) : Prop := k ≤ 8 ∧ u.1 26 2 = nI k ∧ u.1 69 14 = nI k ∧ cj k = m ∧ ∀ j, j < k →
  (u.1 27 j = 0 ∧ u.1 29 j = nI (cj j) ∧ cj j ≤ cj (j + 1) ∧ (∀ e, e < 120 → blk u k j e = blk u k (j + 1) e) ∧ ∀ h a, h < 30 → a < 30 → blk u k j (120 + (30 * h + a)) = if ∃ i, i < cj j ∧ ml i = (h, a) then blk u k (j + 1) (120 + (30 * h + a)) else -1) ∨
  (∃ c, c < nc ∧ u.1 28 j = nI c ∧ cj j = cj (j + 1) ∧
    ((u.1 27 j = 1 ∧ blk u k j (30 + c) = 0 ∧ ∀ e, e < 1020 → e ≠ 30 + c → blk u k j e = blk u k (j + 1) e) ∨
     (u.1 27 j = 2 ∧ blk u k j (60 + c) = 0 ∧ ∀ e, e < 1020 → e ≠ 60 + c → blk u k j e = blk u k (j + 1) e) ∨
     (u.1 27 j = 3 ∧ blk u k j (90 + c) = blk u k (j + 1) (90 + c) - u.1 29 j ∧ (∃ g, g ≤ 999 ∧ blk u k j (90 + c) = nI g) ∧ ∀ e, e < 1020 → e ≠ 90 + c → blk u k j e = blk u k (j + 1) e) ∨
     (u.1 27 j = 4 ∧ blk u k j c = u.1 29 j ∧ (∃ g, g ≤ 9 ∧ u.1 29 j = nI g) ∧ ∀ e, e < 1020 → e ≠ c → blk u k j e = blk u k (j + 1) e)))
def IShown (u : llMem) (n : Nat) : Prop := n ≤ 96 ∧ u.1 43 6 = nI n ∧ u.1 69 53 = nI n ∧ ∀ k, k < n → u.1 100 k = u.1 47 k
/-- miles of two places: the greatest number whose square isn't above -/
def isRoot (d r : Nat) : Prop := r * r ≤ d ∧ d < (r + 1) * (r + 1)
def sqd (a b : Nat) : Nat := if a ≤ b then (b - a) * (b - a) else (a - b) * (a - b)
def IMiles (u : llMem) (nc : Nat) (cx cy : Nat → Nat) (mi : Nat → Nat → Nat) : Prop := ∀ a b, a < nc → b < nc → isRoot (sqd (cx a) (cx b) + sqd (cy a) (cy b)) (mi a b) ∧ u.1 49 (30 * a + b) = nI (mi a b)
def ISeason (u : llMem) : Prop := u.1 69 11 = u.1 14 0
