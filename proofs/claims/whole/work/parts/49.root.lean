/-! rows filled, roots, miles -/
def Filled (c n : Nat) (v : Int32) (u e : llMem) : Prop := (∀ i, i ≠ c → e.1 i = u.1 i) ∧ e.2 = u.2 ∧ (∀ k, k < n → e.1 c k = v) ∧ ∀ k, n ≤ k → e.1 c k = u.1 c k
theorem Filled.step {c i : Nat} {v : Int32} {u s : llMem} (h : Filled c i v u s) : Filled c (i + 1) v u (llSI s c i v) := by
  obtain ⟨h1, h2, h3, h4⟩ := h
  refine ⟨fun j hj => by rw [SI_ne hj, h1 j hj], h2, fun k hk => ?_, fun k hk => by rw [SI_at (by omega), h4 k (by omega)]⟩
  by_cases e : k = i
  · subst e; rw [SI_same, upd_same]
  · rw [SI_at e, h3 k (by omega)]
theorem Filled.zero (c : Nat) (v : Int32) (u : llMem) : Filled c 0 v u u := ⟨fun _ _ => rfl, rfl, fun k h => by omega, fun _ _ => rfl⟩
theorem fill_18 (u : llMem) (v : Int32) : ∃ e, fx_J7_fill_53178_18 u v = some (e, ()) ∧ Filled 18 30 v u e := by
  obtain ⟨e, h1, h2⟩ := loop_inv (body := fx_J7_fill_53178_18_l5 v 30) (fun i s => s.2 = nI i ∧ Filled 18 i v u s.1) (fun e => Filled 18 30 v u e) 30 llFuel (u, 0) ⟨rfl, Filled.zero _ _ _⟩ (by
    rintro i ⟨s, z⟩ hi ⟨hz, hf⟩
    dsimp only at hz hf
    subst hz
    unfold fx_J7_fill_53178_18_l5
    dsimp only
    rw [if_neg (Lnle 30 (by omega) (by decide) hi), gI_nI hi (by decide), nI_clamp (by omega), lt_eq, lt_eq, nI_1]
    exact ⟨_, rfl, rfl, hf.step⟩) (by
    rintro ⟨s, z⟩ ⟨hz, hf⟩
    dsimp only at hz hf
    subst hz
    unfold fx_J7_fill_53178_18_l5
    dsimp only
    rw [if_pos (Lle 30 (by decide) (by decide) (Nat.le_refl _))]
    exact ⟨_, rfl, hf⟩) (by decide)
  unfold fx_J7_fill_53178_18
  rw [h1]
  exact ⟨e, rfl, h2⟩
theorem fill_19 (u : llMem) (v : Int32) : ∃ e, fx_J7_fill_53178_19 u v = some (e, ()) ∧ Filled 19 30 v u e := by
  obtain ⟨e, h1, h2⟩ := loop_inv (body := fx_J7_fill_53178_19_l5 v 30) (fun i s => s.2 = nI i ∧ Filled 19 i v u s.1) (fun e => Filled 19 30 v u e) 30 llFuel (u, 0) ⟨rfl, Filled.zero _ _ _⟩ (by
    rintro i ⟨s, z⟩ hi ⟨hz, hf⟩
    dsimp only at hz hf
    subst hz
    unfold fx_J7_fill_53178_19_l5
    dsimp only
    rw [if_neg (Lnle 30 (by omega) (by decide) hi), gI_nI hi (by decide), nI_clamp (by omega), lt_eq, lt_eq, nI_1]
    exact ⟨_, rfl, rfl, hf.step⟩) (by
    rintro ⟨s, z⟩ ⟨hz, hf⟩
    dsimp only at hz hf
    subst hz
    unfold fx_J7_fill_53178_19_l5
    dsimp only
    rw [if_pos (Lle 30 (by decide) (by decide) (Nat.le_refl _))]
    exact ⟨_, rfl, hf⟩) (by decide)
  unfold fx_J7_fill_53178_19
  rw [h1]
  exact ⟨e, rfl, h2⟩
theorem fill_20 (u : llMem) (v : Int32) : ∃ e, fx_J7_fill_53178_20 u v = some (e, ()) ∧ Filled 20 30 v u e := by
  obtain ⟨e, h1, h2⟩ := loop_inv (body := fx_J7_fill_53178_20_l5 v 30) (fun i s => s.2 = nI i ∧ Filled 20 i v u s.1) (fun e => Filled 20 30 v u e) 30 llFuel (u, 0) ⟨rfl, Filled.zero _ _ _⟩ (by
    rintro i ⟨s, z⟩ hi ⟨hz, hf⟩
    dsimp only at hz hf
    subst hz
    unfold fx_J7_fill_53178_20_l5
    dsimp only
    rw [if_neg (Lnle 30 (by omega) (by decide) hi), gI_nI hi (by decide), nI_clamp (by omega), lt_eq, lt_eq, nI_1]
    exact ⟨_, rfl, rfl, hf.step⟩) (by
    rintro ⟨s, z⟩ ⟨hz, hf⟩
    dsimp only at hz hf
    subst hz
    unfold fx_J7_fill_53178_20_l5
    dsimp only
    rw [if_pos (Lle 30 (by decide) (by decide) (Nat.le_refl _))]
    exact ⟨_, rfl, hf⟩) (by decide)
  unfold fx_J7_fill_53178_20
  rw [h1]
  exact ⟨e, rfl, h2⟩
theorem fill_53 (u : llMem) (v : Int32) : ∃ e, fx_J7_fill_53178_53 u v = some (e, ()) ∧ Filled 53 4 v u e := by
  obtain ⟨e, h1, h2⟩ := loop_inv (body := fx_J7_fill_53178_53_l5 v 4) (fun i s => s.2 = nI i ∧ Filled 53 i v u s.1) (fun e => Filled 53 4 v u e) 4 llFuel (u, 0) ⟨rfl, Filled.zero _ _ _⟩ (by
    rintro i ⟨s, z⟩ hi ⟨hz, hf⟩
    dsimp only at hz hf
    subst hz
    unfold fx_J7_fill_53178_53_l5
    dsimp only
    rw [if_neg (Lnle 4 (by omega) (by decide) hi), gI_nI hi (by decide), nI_clamp (by omega), lt_eq, lt_eq, nI_1]
    exact ⟨_, rfl, rfl, hf.step⟩) (by
    rintro ⟨s, z⟩ ⟨hz, hf⟩
    dsimp only at hz hf
    subst hz
    unfold fx_J7_fill_53178_53_l5
    dsimp only
    rw [if_pos (Lle 4 (by decide) (by decide) (Nat.le_refl _))]
    exact ⟨_, rfl, hf⟩) (by decide)
  unfold fx_J7_fill_53178_53
  rw [h1]
  exact ⟨e, rfl, h2⟩
theorem fill_66 (u : llMem) (v : Int32) : ∃ e, fx_J7_fill_53178_66 u v = some (e, ()) ∧ Filled 66 16 v u e := by
  obtain ⟨e, h1, h2⟩ := loop_inv (body := fx_J7_fill_53178_66_l5 v 16) (fun i s => s.2 = nI i ∧ Filled 66 i v u s.1) (fun e => Filled 66 16 v u e) 16 llFuel (u, 0) ⟨rfl, Filled.zero _ _ _⟩ (by
    rintro i ⟨s, z⟩ hi ⟨hz, hf⟩
    dsimp only at hz hf
    subst hz
    unfold fx_J7_fill_53178_66_l5
    dsimp only
    rw [if_neg (Lnle 16 (by omega) (by decide) hi), gI_nI hi (by decide), nI_clamp (by omega), lt_eq, lt_eq, nI_1]
    exact ⟨_, rfl, rfl, hf.step⟩) (by
    rintro ⟨s, z⟩ ⟨hz, hf⟩
    dsimp only at hz hf
    subst hz
    unfold fx_J7_fill_53178_66_l5
    dsimp only
    rw [if_pos (Lle 16 (by decide) (by decide) (Nat.le_refl _))]
    exact ⟨_, rfl, hf⟩) (by decide)
  unfold fx_J7_fill_53178_66
  rw [h1]
  exact ⟨e, rfl, h2⟩
/-- the root -/
def rt : Nat → Nat
  | 0 => 0
  | n + 1 => if (rt n + 1) * (rt n + 1) ≤ n + 1 then rt n + 1 else rt n
theorem rt_ok : ∀ d, isRoot d (rt d)
  | 0 => ⟨by decide, by decide⟩
  | n + 1 => by
    obtain ⟨h1, h2⟩ := rt_ok n
    unfold rt
    by_cases e : (rt n + 1) * (rt n + 1) ≤ n + 1
    · rw [if_pos e]
      refine ⟨e, ?_⟩
      have : (rt n + 1 + 1) * (rt n + 1 + 1) = (rt n + 1) * (rt n + 1) + 2 * (rt n + 1) + 1 := by grind
      omega
    · rw [if_neg e]
      exact ⟨by omega, by omega⟩
theorem isRoot_le {d r s : Nat} (h : isRoot d r) (hs : s * s ≤ d) : s ≤ r := by
  rcases Nat.lt_or_ge r s with q | q
  · exfalso
    have : (r + 1) * (r + 1) ≤ s * s := Nat.mul_le_mul q q
    have := h.2
    omega
  · exact q
theorem isRoot_uniq {d r s : Nat} (h : isRoot d r) (hs : isRoot d s) : r = s := Nat.le_antisymm (isRoot_le hs h.1) (isRoot_le h hs.1)
theorem isRoot_lt {d r B : Nat} (h : isRoot d r) (hd : d < B * B) : r < B := by
  rcases Nat.lt_or_ge r B with q | q
  · exact q
  · have := Nat.mul_le_mul q q
    have := h.1
    omega
theorem sq_sub (a b : Nat) : (nI a - nI b) * (nI a - nI b) = nI (sqd a b) := by
  unfold sqd
  by_cases e : a ≤ b
  · rw [if_pos e, ← pk_mul, ← pk_sub e]; grind
  · rw [if_neg e, ← pk_mul, ← pk_sub (by omega)]
theorem sqd_le {a b : Nat} (ha : a ≤ 99) (hb : b ≤ 99) : sqd a b ≤ 9801 := by
  unfold sqd
  split
  · exact Nat.mul_le_mul (show b - a ≤ 99 by omega) (show b - a ≤ 99 by omega)
  · exact Nat.mul_le_mul (show a - b ≤ 99 by omega) (show a - b ≤ 99 by omega)
theorem sqd_comm (a b : Nat) : sqd a b = sqd b a := by
  unfold sqd
  by_cases e : a = b
  · subst e; rfl
  · by_cases e2 : a ≤ b
    · rw [if_pos e2, if_neg (by omega)]
    · rw [if_neg e2, if_pos (by omega)]
theorem rootOf_x (u : llMem) {d : Nat} (hd : d < 65536) : fx_X10_rootOf u (nI d) = some (nI (rt d)) := by
  obtain ⟨e, h1, h2⟩ := loop_inv (body := fx_X10_rootOf_l6 u (nI d)) (fun i s => ∃ r, s.1 = nI r ∧ r * r ≤ d ∧ d < (r + 2 ^ (8 - i)) * (r + 2 ^ (8 - i)) ∧ s.2 = nI (2 ^ (8 - i) / 2)) (fun e => e = nI (rt d)) 8 llFuel (0, 128) ⟨0, rfl, by omega, by simpa using hd, rfl⟩ (by
    rintro i ⟨z, b⟩ hi ⟨r, h1, h2, h3, h4⟩
    dsimp only at h1 h4
    subst h1; subst h4
    have hr : r < 256 := by
      rcases Nat.lt_or_ge r 256 with q | q
      · exact q
      · have := Nat.mul_le_mul q q
        omega
    obtain ⟨q, hq1, hq2, hq3, hq4, hsh⟩ : ∃ q, 2 ^ (8 - i) = 2 * q ∧ 1 ≤ q ∧ q ≤ 128 ∧ 2 ^ (8 - (i + 1)) = q ∧ nI q >>> (1 &&& 31) = nI (q / 2) := by
      rcases (show i = 0 ∨ i = 1 ∨ i = 2 ∨ i = 3 ∨ i = 4 ∨ i = 5 ∨ i = 6 ∨ i = 7 by omega) with rfl | rfl | rfl | rfl | rfl | rfl | rfl | rfl
      · exact ⟨128, by decide⟩
      · exact ⟨64, by decide⟩
      · exact ⟨32, by decide⟩
      · exact ⟨16, by decide⟩
      · exact ⟨8, by decide⟩
      · exact ⟨4, by decide⟩
      · exact ⟨2, by decide⟩
      · exact ⟨1, by decide⟩
    rw [hq1] at h3 ⊢
    rw [hq4]
    have e2 : 2 * q / 2 = q := by omega
    have hmul : (r + q) * (r + q) < 2 ^ 31 := by
      have := Nat.mul_le_mul (show r + q ≤ 384 by omega) (show r + q ≤ 384 by omega)
      omega
    unfold fx_X10_rootOf_l6 fx_X10_rootOf_j23_b6
    dsimp only
    rw [e2, if_neg (nleL 0 (by omega) (by decide) (by omega)), lt_eq, nI_add, pk_mul, hsh]
    by_cases c : d < (r + q) * (r + q)
    · rw [if_pos (lt2 (by omega) hmul c)]
      exact ⟨_, rfl, r, rfl, h2, c, rfl⟩
    · rw [if_neg (nlt2 (by omega) hmul (by omega))]
      refine ⟨_, rfl, r + q, rfl, by omega, ?_, rfl⟩
      have : r + 2 * q = r + q + q := by omega
      rw [this] at h3
      exact h3) (by
    rintro ⟨z, b⟩ ⟨r, h1, h2, h3, h4⟩
    dsimp only at h1 h4
    subst h1; subst h4
    unfold fx_X10_rootOf_l6
    dsimp only
    rw [if_pos (by decide)]
    exact ⟨_, rfl, by rw [isRoot_uniq (rt_ok d) ⟨h2, h3⟩]⟩) (by decide)
  unfold fx_X10_rootOf
  rw [h1, Option.bind_some, h2]
theorem milesL_m (u : llMem) {d : Nat} (hd : d < 65536) : loop (fx_X12_miles_69_l59 u (nI d)) llFuel 0 = some (nI (rt d)) := by
  have hr := rt_ok d
  have hlt := isRoot_lt hr (B := 256) hd
  refine loop_run0 (fun i => nI i) (nI (rt d)) (rt d) llFuel rfl (fun i hi => ?_) ?_ (by unfold llFuel; omega)
  · unfold fx_X12_miles_69_l59
    have := Nat.mul_le_mul (show i + 1 ≤ rt d by omega) (show i + 1 ≤ rt d by omega)
    have := hr.1
    rw [nI_1, pk_mul, if_neg (nlt2 (by omega) (by omega) (by omega)), lt_eq]
  · unfold fx_X12_miles_69_l59
    have := hr.2
    have := Nat.mul_le_mul (show rt d + 1 ≤ 256 by omega) (show rt d + 1 ≤ 256 by omega)
    rw [nI_1, pk_mul, if_pos (lt2 (by omega) (by omega) (by omega))]
