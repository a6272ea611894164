/-! the class lists the sets -/
theorem sumN_take (g : Nat → Nat) (b : List Nat) : ∀ k, k ≤ b.length → sumN (fun j => g (b.getD j 0)) k = ((b.take k).map g).sum
  | 0, _ => by rw [List.take_zero]; rfl
  | k + 1, h => by
    have ih := sumN_take g b k (by omega)
    show sumN _ k + g (b.getD k 0) = _
    rw [ih, take_s (by omega), List.map_append, List.sum_append, List.map_singleton, List.sum_singleton]
theorem sumN_list (g : Nat → Nat) (b : List Nat) : sumN (fun j => g (b.getD j 0)) b.length = (b.map g).sum := by
  rw [sumN_take g b b.length (Nat.le_refl _), List.take_length]
theorem pairSum_snoc (f : Nat → Nat → Nat) (b : List Nat) (i : Nat) : pairSum f (b ++ [i]) = pairSum f b + (b.map (fun z => f z i)).sum := by
  induction b with
  | nil => rfl
  | cons a b ih =>
    show ((b ++ [i]).map (f a)).sum + pairSum f (b ++ [i]) = ((b.map (f a)).sum + pairSum f b) + (f a i + (b.map (fun z => f z i)).sum)
    rw [ih, List.map_append, List.sum_append, List.map_singleton, List.sum_singleton]
    omega
theorem mkN_snoc (b : List Nat) (i : Nat) : mkN (b ++ [i]) = mkN b ||| 2 ^ i := by
  induction b with
  | nil => show 2 ^ i ||| 0 = 0 ||| 2 ^ i; rw [Nat.or_zero, Nat.zero_or]
  | cons a b ih =>
    show 2 ^ a ||| mkN (b ++ [i]) = (2 ^ a ||| mkN b) ||| 2 ^ i
    rw [ih, Nat.or_assoc]
theorem mk_inj {T b c : List Nat} (hT : T.Nodup) (hb : b.Sublist T) (hc : c.Sublist T) (h : mkN b = mkN c) : b = c := by
  rw [← sub_filter hb hT, ← sub_filter hc hT]
  refine List.filter_congr (fun z _ => ?_)
  rw [← mk_bit, ← mk_bit, h]
def PB (A : Ab) (l : Nat) (u : llMem) : Prop := u.1 52 5 = nI (rowOf A l).length ∧ u.1 52 6 = nI (A.sz l) ∧ u.1 52 7 = nI (A.dv l) ∧ ∀ i, i < (rowOf A l).length → u.1 56 i = nI ((rowOf A l).getD i 0)
def LSt (f : Nat → Nat → Nat) (u : llMem) (L : List (List Nat)) : Prop := u.1 52 10 = nI L.length ∧ (∀ j, j < L.length → u.1 58 j = nI (mkN (L.getD j []))) ∧ ∀ b, b ∈ L → u.1 59 (mkN b) = nI (pairSum f b)
theorem milesTo_x {A : Ab} {m u : llMem} (hp : IPy0 A u m) {l : Nat} {b : List Nat} {i : Nat} (hb : ∀ z, z ∈ b → z < (rowOf A l).length) (hk : b.length < 12) (hi : i < (rowOf A l).length) (h57 : ∀ j, j < b.length → u.1 57 j = nI ((rowOf A l).getD (b.getD j 0) 0)) (hki : u.1 57 b.length = nI ((rowOf A l).getD i 0)) : fx_X4_milesTo_52 u (nI b.length) = some (nI ((b.map (fun z => miR A l z i)).sum)) := by
  have hn := hp.ncB
  unfold fx_X4_milesTo_52
  have r := fun {z : Nat} (hz : z < (rowOf A l).length) => (row_mem.mp (getD_in hz)).1
  have lp : loop (fx_X4_milesTo_52_l4 u (nI b.length)) llFuel (0, 0) = some (nI (sumN (fun j => miR A l (b.getD j 0) i) b.length)) := by
    refine loop_sumN (fun j => miR A l (b.getD j 0) i) b.length ?_ ?_ (llF (by omega))
    · intro j a hj
      have hz := hb _ (getD_in hj)
      unfold fx_X4_milesTo_52_l4
      dsimp only
      rw [if_neg (nle2 (by omega) (by omega) hj), gI_nI (by omega) (by decide), gI_nI (by omega) (by decide), rI_n (by omega), rI_n (by omega), h57 j hj, hki, between_0 hp (r hz) (r hi), Option.bind_some, lt_eq, lt_eq, nI_1, nI_add]
      rfl
    · intro a
      unfold fx_X4_milesTo_52_l4
      dsimp only
      rw [if_pos (le2 (by omega) (by omega) (Nat.le_refl _))]
  rw [lp, Option.bind_some, sumN_list (fun z => miR A l z i) b]
theorem range_drop {n i : Nat} (h : i < n) : (List.range n).drop i = i :: (List.range n).drop (i + 1) := by
  rw [drop_c (by rw [List.length_range]; exact h)]
  congr 1
  rw [List.getD_eq_getElem?_getD, List.getElem?_range h]; rfl
theorem combos_cons (k a : Nat) (M : List Nat) : combos (k + 1) (a :: M) = (combos k M).map (fun b => a :: b) ++ combos (k + 1) M := by
  rw [combos]
theorem combos_924 : ∀ n, n < 13 → ∀ s, s < 7 → (combos s (List.range n)).length ≤ 924 := by decide +kernel
