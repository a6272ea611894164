/-! sums of a season: what a match adds, what its taking back takes -/
def cP (v : Int32) (w : Nat) : Int32 := if v = -1 then 0 else part (hiG v) (loG v) w
def cA (v : Int32) (w : Nat) : Int32 := if v = -1 then 0 else part (loG v) (hiG v) w
theorem sumW_eq (sc : Nat → Int32) (nc c w : Nat) : sumW sc nc c w = sumI (fun o => cP (sc (30 * c + o)) w + cA (sc (30 * o + c)) w) nc := rfl
theorem sumI_one {f g : Nat → Int32} {j : Nat} : ∀ (n : Nat), (∀ i, i < n → i ≠ j → g i = f i) → j < n → sumI g n = sumI f n + (g j - f j)
  | 0, _, h => by omega
  | n + 1, h, hj => by
    simp only [sumI]
    by_cases e : j = n
    · subst e
      rw [sumI_congr j (fun i hi => h i (by omega) (by omega))]
      grind
    · rw [sumI_one n (fun i hi => h i (by omega)) (by omega), h n (by omega) (by omega)]
      grind
theorem sumW_upd {sc sc' : Nat → Int32} {nc h a : Nat} {v : Int32} (hh : h < nc) (ha : a < nc) (hn : nc ≤ 30) (hne : h ≠ a) (hs : ∀ b o, b < 30 → o < 30 → sc' (30 * b + o) = if b = h ∧ o = a then v else sc (30 * b + o)) {c : Nat} (hc : c < 30) (w : Nat) :
    sumW sc' nc c w = (if c = h then sumW sc nc c w + (cP v w - cP (sc (30 * h + a)) w) else if c = a then sumW sc nc c w + (cA v w - cA (sc (30 * h + a)) w) else sumW sc nc c w) := by
  rw [sumW_eq, sumW_eq]
  by_cases e1 : c = h
  · subst e1
    rw [if_pos rfl, sumI_one (f := fun o => cP (sc (30 * c + o)) w + cA (sc (30 * o + c)) w) (j := a) nc (fun o ho hoa => ?_) ha]
    · rw [hs c a hc (by omega), hs a c (by omega) hc, if_pos ⟨rfl, rfl⟩, if_neg (by omega)]
      grind
    · rw [hs c o hc (by omega), hs o c (by omega) hc, if_neg (by omega), if_neg (by omega)]
  · rw [if_neg e1]
    by_cases e2 : c = a
    · subst e2
      rw [if_pos rfl, sumI_one (f := fun o => cP (sc (30 * c + o)) w + cA (sc (30 * o + c)) w) (j := h) nc (fun o ho hoa => ?_) hh]
      · rw [hs c h hc (by omega), hs h c (by omega) hc, if_neg (by omega), if_pos ⟨rfl, rfl⟩]
        grind
      · rw [hs c o hc (by omega), hs o c (by omega) hc, if_neg (by omega), if_neg (by omega)]
    · rw [if_neg e2]
      exact sumI_congr nc (fun o ho => by rw [hs c o hc (by omega), hs o c (by omega) hc, if_neg (by omega), if_neg (by omega)])
theorem rI_n {u : llMem} {c k : Nat} (hk : k < 2 ^ 31) : rI u c (nI k) = u.1 c k := by unfold rI; rw [nI_clamp hk]
theorem rL_n {u : llMem} {c k : Nat} (hk : k < 2 ^ 31) : rL u c (nI k) = u.2.1 c k := by unfold rL; rw [nI_clamp hk]
/-- what tally does -/
def Tal (u u' : llMem) (c : Nat) (g t s : Int32) : Prop := (∀ i, i < 21 ∨ 25 < i → u'.1 i = u.1 i) ∧ u'.2 = u.2 ∧ ∀ w, w < 5 → u'.1 (21 + w) = upd (u.1 (21 + w)) c (u.1 (21 + w) c + part g t w * s)
theorem upd_id {f : Nat → Int32} {k : Nat} {v : Int32} (h : v = f k) : upd f k v = f := by
  funext j
  by_cases e : j = k
  · subst e; rw [upd_same, h]
  · rw [upd_ne e]
theorem i32_one_mul (s : Int32) : (1 : Int32) * s = s := by grind
theorem i32_zero_mul (s : Int32) : (0 : Int32) * s = 0 := by grind
theorem i32_add_zero (s : Int32) : s + (0 : Int32) = s := by grind
theorem tally_x (u : llMem) {c : Nat} (hc : c < 30) (g t s : Int32) : ∃ u', fx_X7_tally_14 u (nI c) g t s = some (u', ()) ∧ Tal u u' c g t s := by
  have hc2 : c < 2 ^ 31 := by omega
  unfold fx_X7_tally_14
  simp only [gI_nI hc (show 30 < 2 ^ 31 by decide), lt_eq, rI_n hc2, nI_clamp hc2]
  by_cases h1 : g ≤ t
  · rw [if_pos h1]
    by_cases h2 : g = t
    · rw [if_neg (fun q => q h2)]
      refine ⟨_, rfl, fun i hi => ?_, rfl, fun w hw => ?_⟩
      · rw [SI_ne (by omega), SI_ne (by omega), SI_ne (by omega), SI_ne (by omega)]
      · subst h2
        rcases (show w = 0 ∨ w = 1 ∨ w = 2 ∨ w = 3 ∨ w = 4 by omega) with rfl | rfl | rfl | rfl | rfl
        · rw [SI_ne (by decide), SI_ne (by decide), SI_ne (by decide), SI_same]; simp only [part, i32_one_mul]
        · rw [SI_ne (by decide), SI_ne (by decide), SI_ne (by decide), SI_ne (by decide)]
          simp only [part]
          rw [if_neg (fun q => Int32.lt_irrefl q), i32_zero_mul, i32_add_zero, upd_id rfl]
        · rw [SI_same, SI_ne (by decide), SI_ne (by decide), SI_ne (by decide)]; simp only [part, if_pos, i32_one_mul]
        · rw [SI_ne (by decide), SI_ne (by decide), SI_same, SI_ne (by decide)]; simp only [part]
        · rw [SI_ne (by decide), SI_same, SI_ne (by decide), SI_ne (by decide)]; simp only [part]
    · rw [if_pos h2]
      have h3 : ¬ t < g := Int32.not_lt.mpr h1
      refine ⟨_, rfl, fun i hi => ?_, rfl, fun w hw => ?_⟩
      · rw [SI_ne (by omega), SI_ne (by omega), SI_ne (by omega)]
      · rcases (show w = 0 ∨ w = 1 ∨ w = 2 ∨ w = 3 ∨ w = 4 by omega) with rfl | rfl | rfl | rfl | rfl
        · rw [SI_ne (by decide), SI_ne (by decide), SI_same]; simp only [part, i32_one_mul]
        · rw [SI_ne (by decide), SI_ne (by decide), SI_ne (by decide)]
          simp only [part]
          rw [if_neg h3, i32_zero_mul, i32_add_zero, upd_id rfl]
        · rw [SI_ne (by decide), SI_ne (by decide), SI_ne (by decide)]
          simp only [part]
          rw [if_neg h2, i32_zero_mul, i32_add_zero, upd_id rfl]
        · rw [SI_ne (by decide), SI_same, SI_ne (by decide)]; simp only [part]
        · rw [SI_same, SI_ne (by decide), SI_ne (by decide)]; simp only [part]
  · rw [if_neg h1]
    have h3 : t < g := Int32.not_le.mp h1
    have h2 : ¬ g = t := fun e => by subst e; exact h1 (Int32.le_refl g)
    refine ⟨_, rfl, fun i hi => ?_, rfl, fun w hw => ?_⟩
    · rw [SI_ne (by omega), SI_ne (by omega), SI_ne (by omega), SI_ne (by omega)]
    · rcases (show w = 0 ∨ w = 1 ∨ w = 2 ∨ w = 3 ∨ w = 4 by omega) with rfl | rfl | rfl | rfl | rfl
      · rw [SI_ne (by decide), SI_ne (by decide), SI_ne (by decide), SI_same]; simp only [part, i32_one_mul]
      · rw [SI_same, SI_ne (by decide), SI_ne (by decide), SI_ne (by decide)]
        simp only [part]
        rw [if_pos h3, i32_one_mul]
      · rw [SI_ne (by decide), SI_ne (by decide), SI_ne (by decide), SI_ne (by decide)]
        simp only [part]
        rw [if_neg h2, i32_zero_mul, i32_add_zero, upd_id rfl]
      · rw [SI_ne (by decide), SI_ne (by decide), SI_same, SI_ne (by decide)]; simp only [part]
      · rw [SI_ne (by decide), SI_same, SI_ne (by decide), SI_ne (by decide)]; simp only [part]
theorem ISu_iff {A : Ab} {x : llMem} : ISu A x ↔ ∀ c w, c < 30 → w < 5 → x.1 (21 + w) c = sumW (x.1 17) A.nc c w := by
  constructor
  · intro h c w hc hw
    obtain ⟨h0, h1, h2, h3, h4⟩ := h c hc
    rcases (show w = 0 ∨ w = 1 ∨ w = 2 ∨ w = 3 ∨ w = 4 by omega) with rfl | rfl | rfl | rfl | rfl
    · exact h0
    · exact h1
    · exact h2
    · exact h3
    · exact h4
  · intro h c hc
    exact ⟨h c 0 hc (by decide), h c 1 hc (by decide), h c 2 hc (by decide), h c 3 hc (by decide), h c 4 hc (by decide)⟩
theorem ix30 (h a : Nat) : nI h * 30 + nI a = nI (30 * h + a) := by
  rw [show (30 : Int32) = nI 30 from rfl, pk_mul, nI_add, Nat.mul_comm]
theorem ISu.step {A : Ab} {u u1 u2 : llMem} {h a : Nat} {g t s v : Int32} (hS : ISu A u) (hn : A.nc ≤ 30) (hh : h < A.nc) (ha : a < A.nc) (hne : h ≠ a) (t1 : Tal u u1 h g t s) (t2 : Tal u1 u2 a t g s) (k1 : ∀ w, w < 5 → part g t w * s = cP v w - cP (u.1 17 (30 * h + a)) w) (k2 : ∀ w, w < 5 → part t g w * s = cA v w - cA (u.1 17 (30 * h + a)) w) : ISu A (llSI u2 17 (30 * h + a) v) := by
  rw [ISu_iff] at hS ⊢
  intro c w hc hw
  have e17 : u2.1 17 = u.1 17 := (t2.1 17 (by omega)).trans (t1.1 17 (by omega))
  have hs : ∀ b o, b < 30 → o < 30 → (llSI u2 17 (30 * h + a) v).1 17 (30 * b + o) = if b = h ∧ o = a then v else u.1 17 (30 * b + o) := fun b o hb ho => by
    rw [SI_same]
    by_cases e : b = h ∧ o = a
    · rw [if_pos e, e.1, e.2, upd_same]
    · rw [if_neg e, upd_ne (by omega), e17]
  rw [sumW_upd hh ha hn hne hs hc w, SI_ne (by omega), t2.2.2 w hw, t1.2.2 w hw]
  by_cases e1 : c = h
  · subst e1
    rw [if_pos rfl, upd_ne hne, upd_same, hS c w hc hw, k1 w hw]
  · rw [if_neg e1]
    by_cases e2 : c = a
    · subst e2
      rw [if_pos rfl, upd_same, upd_ne e1, hS c w hc hw, k2 w hw]
    · rw [if_neg e2, upd_ne e2, upd_ne e1, hS c w hc hw]
theorem isTold_x {u : llMem} {h a : Nat} (hh : h < 30) (ha : a < 30) : fx_X7_isTold_14 u (nI h) (nI a) = some (if u.1 17 (30 * h + a) = -1 then 0 else 1) := by
  unfold fx_X7_isTold_14
  rw [ix30, gI_nI (by omega) (by decide), rI_n (by omega)]
  by_cases e : u.1 17 (30 * h + a) = -1
  · rw [if_pos e, if_pos e, gB_0]
  · rw [if_neg e, if_neg e, gB_1]
theorem homeGoals_x {u : llMem} {h a : Nat} (hh : h < 30) (ha : a < 30) : fx_X7_homeGoals_14 u (nI h) (nI a) = some (if u.1 17 (30 * h + a) = -1 then -1 else hiG (u.1 17 (30 * h + a))) := by
  unfold fx_X7_homeGoals_14
  rw [isTold_x hh ha, Option.bind_some, ix30, gI_nI (by omega) (by decide), rI_n (by omega), gZ_ok (by decide)]
  by_cases e : u.1 17 (30 * h + a) = -1
  · rw [if_pos e, if_pos e, if_pos rfl]
  · rw [if_neg e, if_neg e, if_neg (by decide)]; rfl
theorem awayGoals_x {u : llMem} {h a : Nat} (hh : h < 30) (ha : a < 30) : fx_X7_awayGoals_14 u (nI h) (nI a) = some (if u.1 17 (30 * h + a) = -1 then -1 else loG (u.1 17 (30 * h + a))) := by
  unfold fx_X7_awayGoals_14
  rw [isTold_x hh ha, Option.bind_some, ix30, gI_nI (by omega) (by decide), rI_n (by omega), gZ_ok (by decide)]
  by_cases e : u.1 17 (30 * h + a) = -1
  · rw [if_pos e, if_pos e, if_pos rfl]
  · rw [if_neg e, if_neg e, if_neg (by decide)]; rfl
/-- keepFirst: matches from kept on are taken back -/
def Kept (A : Ab) (x x' : llMem) (mc kept : Nat) (ml : Nat → Nat × Nat) : Prop := (∀ i, i ≠ 14 → i ≠ 17 → i < 21 ∨ 25 < i → x'.1 i = x.1 i) ∧ (∀ i, i ≠ 1 → x'.1 14 i = x.1 14 i) ∧ x'.2 = x.2 ∧ x'.1 14 1 = nI kept ∧ ISu A x' ∧ ∀ h a, h < 30 → a < 30 → x'.1 17 (30 * h + a) = if ∃ j, j < mc ∧ kept ≤ j ∧ ml j = (h, a) then -1 else x.1 17 (30 * h + a)
theorem nI_100 {g t : Nat} (hg : g ≤ 99) (ht : t ≤ 99) : hiG (nI (100 * g + t)) = nI g ∧ loG (nI (100 * g + t)) = nI t ∧ ¬ nI (100 * g + t) = -1 := by
  have h1 : hiG (nI (100 * g + t)) = nI g := by
    unfold hiG
    rw [show (100 : Int32) = nI 100 from rfl, pk_div (by omega) (by omega) (by decide)]
    congr 1; omega
  refine ⟨h1, ?_, nI_nm1 (by omega)⟩
  unfold loG
  unfold hiG at h1
  rw [h1, show (100 : Int32) = nI 100 from rfl, pk_mul, pk_sub (by omega)]
  congr 1; omega
theorem i32_mul_m1 (s : Int32) : s * (-1) = 0 - s := by grind
theorem keepFirst_x {A : Ab} {x : llMem} {mc : Nat} {ml : Nat → Nat × Nat} (hn : A.nc ≤ 30) (hM : IMa A x mc ml) (hS : ISu A x) {kept : Nat} (hk : kept ≤ mc) : ∃ x', fx_X7_keepFirst_14 x (nI kept) = some (x', ()) ∧ Kept A x x' mc kept ml := by
  obtain ⟨m1, m2, m3, m4, m5⟩ := hM
  have key : ∃ e, loop (fx_X7_keepFirst_14_l2 (nI kept)) llFuel (x, nI kept) = some e ∧ ((∀ i, i ≠ 17 → i < 21 ∨ 25 < i → e.1 i = x.1 i) ∧ e.2 = x.2 ∧ ISu A e ∧ ∀ h a, h < 30 → a < 30 → e.1 17 (30 * h + a) = if ∃ j, j < mc ∧ kept ≤ j ∧ ml j = (h, a) then -1 else x.1 17 (30 * h + a)) := by
    refine loop_inv (fun i s => s.2 = nI (kept + i) ∧ (∀ i, i ≠ 17 → i < 21 ∨ 25 < i → s.1.1 i = x.1 i) ∧ s.1.2 = x.2 ∧ ISu A s.1 ∧ ∀ h a, h < 30 → a < 30 → s.1.1 17 (30 * h + a) = if ∃ j, j < kept + i ∧ kept ≤ j ∧ ml j = (h, a) then -1 else x.1 17 (30 * h + a)) _ (mc - kept) llFuel (x, nI kept) ⟨rfl, fun _ _ _ => rfl, rfl, hS, fun h a _ _ => by rw [if_neg (by rintro ⟨j, h1, h2, _⟩; omega)]⟩ ?_ ?_ (by unfold llFuel; omega)
    · rintro i ⟨u, v⟩ hi ⟨hv, f1, f2, f3, f4⟩
      dsimp only at hv f1 f2 f3 f4
      subst hv
      have hj : kept + i < mc := by omega
      obtain ⟨b1, b2, b3, b4, b5, b6, b7, g, t, b8, b9, b10⟩ := m3 (kept + i) hj
      have g1 : ∀ k, u.1 15 k = x.1 15 k := fun k => by rw [f1 15 (by decide) (by omega)]
      have g2 : ∀ k, u.1 16 k = x.1 16 k := fun k => by rw [f1 16 (by decide) (by omega)]
      have hsc : u.1 17 (30 * (ml (kept + i)).1 + (ml (kept + i)).2) = nI (100 * g + t) := by
        rw [f4 _ _ (by omega) (by omega), if_neg, b10]
        rintro ⟨j, k2, k1, k3⟩
        have := m4 j (kept + i) (by omega) hj k3
        omega
      obtain ⟨n1, n2, n3⟩ := nI_100 b8 b9
      unfold fx_X7_keepFirst_14_l2
      dsimp only
      rw [f1 14 (by decide) (by omega), m2, if_neg (nle2 (by omega) (by omega) hj)]
      simp only [gI_nI (show kept + i < 150 by omega) (show 150 < 2 ^ 31 by decide), rI_n (show kept + i < 2 ^ 31 by omega), lt_eq]
      rw [g1, g2, b1, b2, homeGoals_x (by omega) (by omega), awayGoals_x (by omega) (by omega), hsc, if_neg n3, if_neg n3, n1, n2]
      simp only [Option.bind_some]
      obtain ⟨u1, c1, c2⟩ := tally_x u (c := (ml (kept + i)).1) (by omega) (nI g) (nI t) (-1)
      obtain ⟨u2, d1, d2⟩ := tally_x u1 (c := (ml (kept + i)).2) (by omega) (nI t) (nI g) (-1)
      rw [c1, bd_mk, d1, bd_mk, ix30, gI_nI (by omega) (by decide), nI_clamp (by omega), nI_1]
      refine ⟨_, rfl, rfl, fun k k1 k2 => ?_, ?_, ?_, fun h a hh ha => ?_⟩
      · dsimp only
        rw [SI_ne k1, d2.1 k k2, c2.1 k k2, f1 k k1 k2]
      · show u2.2 = x.2
        rw [d2.2.1, c2.2.1, f2]
      · refine f3.step hn b3 b4 b5 c2 d2 (fun w hw => ?_) (fun w hw => ?_)
        · rw [hsc]; unfold cP; rw [if_pos rfl, if_neg n3, n1, n2, i32_mul_m1]
        · rw [hsc]; unfold cA; rw [if_pos rfl, if_neg n3, n1, n2, i32_mul_m1]
      · dsimp only
        rw [SI_same]
        by_cases e : 30 * h + a = 30 * (ml (kept + i)).1 + (ml (kept + i)).2
        · rw [e, upd_same, if_pos ⟨kept + i, by omega, by omega, by
            have e1 : (ml (kept + i)).1 = h := by omega
            have e2 : (ml (kept + i)).2 = a := by omega
            rw [← e1, ← e2]⟩]
        · rw [upd_ne e, d2.1 17 (by omega), c2.1 17 (by omega), f4 h a hh ha]
          by_cases q : ∃ j, j < kept + i ∧ kept ≤ j ∧ ml j = (h, a)
          · rw [if_pos q, if_pos (by obtain ⟨j, k2, k1, k3⟩ := q; exact ⟨j, by omega, k1, k3⟩)]
          · rw [if_neg q, if_neg]
            rintro ⟨j, k2, k1, k3⟩
            by_cases q2 : j = kept + i
            · subst q2; rw [k3] at e; exact e rfl
            · exact q ⟨j, by omega, k1, k3⟩
    · rintro ⟨u, v⟩ ⟨hv, f1, f2, f3, f4⟩
      dsimp only at hv f1 f2 f3 f4
      subst hv
      unfold fx_X7_keepFirst_14_l2
      dsimp only
      rw [f1 14 (by decide) (by omega), m2, if_pos (le2 (by omega) (by omega) (by omega))]
      refine ⟨_, rfl, f1, f2, f3, fun h a hh ha => ?_⟩
      rw [f4 h a hh ha, show kept + (mc - kept) = mc by omega]
  obtain ⟨e, h1, h2, h3, h4, h5⟩ := key
  unfold fx_X7_keepFirst_14
  rw [h1]
  simp only [Option.bind_some, lt_eq]
  refine ⟨_, rfl, fun i k0 k1 k2 => ?_, fun i hi => ?_, h3, ?_, ?_, fun h a hh ha => ?_⟩
  · rw [SI_ne k0, h2 i k1 k2]
  · rw [SI_at hi, h2 14 (by decide) (by omega)]
  · rw [SI_same, upd_same, h2 14 (by decide) (by omega), m2]
    by_cases e : kept < mc
    · rw [if_pos (lt2 (by omega) (by omega) e)]
    · rw [if_neg (nlt2 (by omega) (by omega) (by omega)), show kept = mc by omega]
  · rw [ISu_iff] at h4 ⊢
    intro c w hc hw
    rw [SI_ne (by omega), SI_ne (by decide)]
    exact h4 c w hc hw
  · rw [SI_ne (by decide)]; exact h5 h a hh ha
