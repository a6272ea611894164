/-! show: the bytes of a table -/
def Wr (x : llMem) (T : List Nat) : Prop := x.1 43 6 = nI T.length ∧ ∀ k, k < T.length → x.1 47 k = nI (T.getD k 0)
def WF (x x' : llMem) : Prop := Sm [43, 47] x x' ∧ ∀ k, k ≠ 6 → x'.1 43 k = x.1 43 k
theorem WF.refl (x : llMem) : WF x x := ⟨Sm.refl _ _, fun _ _ => rfl⟩
theorem WF.trans {a b c : llMem} (h1 : WF a b) (h2 : WF b c) : WF a c := ⟨h1.1.trans h2.1, fun k hk => (h2.2 k hk).trans (h1.2 k hk)⟩
def WrM (m : llMem) (T : List Nat) : Prop := m.1 69 53 = nI T.length ∧ ∀ k, k < T.length → m.1 100 k = nI (T.getD k 0)
def WFm (m m' : llMem) : Prop := Sm [69, 100] m m' ∧ ∀ k, k ≠ 53 → m'.1 69 k = m.1 69 k
theorem WFm.refl (x : llMem) : WFm x x := ⟨Sm.refl _ _, fun _ _ => rfl⟩
theorem WFm.trans {a b c : llMem} (h1 : WFm a b) (h2 : WFm b c) : WFm a c := ⟨h1.1.trans h2.1, fun k hk => (h2.2 k hk).trans (h1.2 k hk)⟩
theorem writeSign_x {x : llMem} {T : List Nat} (h : Wr x T) (hT : T.length < 96) (b : Nat) : ∃ x', fx_X8_writeSign_43 x (nI b) = some (x', ()) ∧ Wr x' (T ++ [b]) ∧ WF x x' := by
  unfold fx_X8_writeSign_43
  rw [h.1, if_neg (Lnle 96 (by omega) (by decide) hT), gI_nI (by omega) (by decide), nI_clamp (by omega)]
  simp only [lt_eq]
  rw [SI_ne (show 43 ≠ 47 by decide), h.1, nI_1]
  refine ⟨_, rfl, ⟨?_, fun k hk => ?_⟩, (Sm.SI (by simp)).trans (Sm.SI (by simp)), fun k hk => ?_⟩
  · rw [SI_same, upd_same, List.length_append, List.length_singleton]
  · rw [List.length_append, List.length_singleton] at hk
    rw [SI_ne (by decide), SI_same]
    by_cases e : k = T.length
    · rw [e, upd_same, getD_last]
    · rw [upd_ne e, getD_left (by omega)]; exact h.2 k (by omega)
  · rw [SI_at hk, SI_ne (by decide)]
theorem says_m {m : llMem} {T : List Nat} (h : WrM m T) (hT : T.length < 200) (b : Nat) : ∃ m', fx_X12_says_69 m (nI b) = some (m', ()) ∧ WrM m' (T ++ [b]) ∧ WFm m m' := by
  unfold fx_X12_says_69
  rw [h.1, gI_nI (by omega) (by decide), nI_clamp (by omega)]
  simp only [lt_eq]
  rw [SI_ne (show 69 ≠ 100 by decide), h.1, nI_1]
  refine ⟨_, rfl, ⟨?_, fun k hk => ?_⟩, (Sm.SI (by simp)).trans (Sm.SI (by simp)), fun k hk => ?_⟩
  · rw [SI_same, upd_same, List.length_append, List.length_singleton]
  · rw [List.length_append, List.length_singleton] at hk
    rw [SI_ne (by decide), SI_same]
    by_cases e : k = T.length
    · rw [e, upd_same, getD_last]
    · rw [upd_ne e, getD_left (by omega)]; exact h.2 k (by omega)
  · rw [SI_at hk, SI_ne (by decide)]
/-! names -/
theorem p8r_dig : ∀ (v : List Nat) (j : Nat), (∀ a, a ∈ v → a < 26) → p8r v / 256 ^ j % 256 = if j < v.length then 97 + v.getD j 0 else 0
  | [], j, _ => by simp [p8r]
  | a :: t, 0, h => by
    have := h a (List.mem_cons_self ..)
    rw [if_pos (by simp)]
    show (p8r t * 256 + (97 + a)) / 256 ^ 0 % 256 = 97 + a
    rw [Nat.pow_zero, Nat.div_one]; omega
  | a :: t, j + 1, h => by
    have h1 := h a (List.mem_cons_self ..)
    have ih := p8r_dig t j (fun b hb => h b (List.mem_cons_of_mem _ hb))
    have e : p8r (a :: t) / 256 ^ (j + 1) = p8r t / 256 ^ j := by
      show (p8r t * 256 + (97 + a)) / 256 ^ (j + 1) = _
      rw [Nat.pow_succ, Nat.mul_comm (256 ^ j), ← Nat.div_div_eq_div_mul]
      congr 1; omega
    rw [e, ih, List.length_cons]
    by_cases q : j < t.length
    · rw [if_pos q, if_pos (by omega)]; rfl
    · rw [if_neg q, if_neg (by omega)]
theorem p5r_dig : ∀ (v : List Nat) (j : Nat), (∀ a, a ∈ v → a < 26) → p5r v / 32 ^ j % 32 = if j < v.length then 1 + v.getD j 0 else 0
  | [], j, _ => by simp [p5r]
  | a :: t, 0, h => by
    have := h a (List.mem_cons_self ..)
    rw [if_pos (by simp)]
    show (p5r t * 32 + (a + 1)) / 32 ^ 0 % 32 = 1 + a
    rw [Nat.pow_zero, Nat.div_one]; omega
  | a :: t, j + 1, h => by
    have h1 := h a (List.mem_cons_self ..)
    have ih := p5r_dig t j (fun b hb => h b (List.mem_cons_of_mem _ hb))
    have e : p5r (a :: t) / 32 ^ (j + 1) = p5r t / 32 ^ j := by
      show (p5r t * 32 + (a + 1)) / 32 ^ (j + 1) = _
      rw [Nat.pow_succ, Nat.mul_comm (32 ^ j), ← Nat.div_div_eq_div_mul]
      congr 1; omega
    rw [e, ih, List.length_cons]
    by_cases q : j < t.length
    · rw [if_pos q, if_pos (by omega)]; rfl
    · rw [if_neg q, if_neg (by omega)]
/-- what of a name is written when t places are through -/
def nmT (w : List Nat) (t : Nat) : List Nat := ((w.reverse.drop (7 - t)).reverse).map (fun a => 97 + a)
theorem nmT_s {w : List Nat} {t : Nat} (ht : t < 7) : nmT w (t + 1) = nmT w t ++ (if 6 - t < w.length then [97 + w.reverse.getD (6 - t) 0] else []) := by
  unfold nmT
  rw [show 7 - (t + 1) = 6 - t by omega, show 7 - t = (6 - t) + 1 by omega]
  by_cases e : 6 - t < w.length
  · rw [if_pos e, List.drop_eq_getElem_cons (show 6 - t < w.reverse.length by rw [List.length_reverse]; exact e), List.reverse_cons, List.map_append, List.getD_eq_getElem?_getD, List.getElem?_eq_getElem (show 6 - t < w.reverse.length by rw [List.length_reverse]; exact e)]
    rfl
  · rw [if_neg e, List.append_nil, List.drop_eq_nil_of_le (by rw [List.length_reverse]; omega), List.drop_eq_nil_of_le (by rw [List.length_reverse]; omega)]
theorem nmT_7 (w : List Nat) : nmT w 7 = w.map (fun a => 97 + a) := by
  unfold nmT; rw [Nat.sub_self, List.drop_zero, List.reverse_reverse]
theorem nmT_0 {w : List Nat} (h : w.length ≤ 7) : nmT w 0 = [] := by
  unfold nmT; rw [List.drop_eq_nil_of_le (by rw [List.length_reverse]; omega)]; rfl
theorem nmT_len {w : List Nat} (h : w.length ≤ 7) {t : Nat} (ht : t < 7) : (nmT w t).length ≤ 6 := by
  unfold nmT; rw [List.length_map, List.length_reverse, List.length_drop, List.length_reverse]; omega
def sh6 (k t : Nat) : Int32 := if t < 7 then nI (k * (6 - t)) else (if k = 8 then -8 else -5)
theorem sh6_8 : ∀ t, t < 7 → sh6 8 t + (-8) = sh6 8 (t + 1) := by decide
theorem sh6_5 : ∀ t, t < 7 → sh6 5 t + (-5) = sh6 5 (t + 1) := by decide
theorem rev_lt {w : List Nat} (h : ∀ a, a ∈ w → a < 26) : ∀ a, a ∈ w.reverse → a < 26 := fun a ha => h a (List.mem_reverse.mp ha)
theorem nameL_x {x : llMem} {T w : List Nat} {c : Nat} (h : Wr x T) (hT : T.length + 7 ≤ 96) (hc : c < 30) (hw : okW w) (h8 : x.2.1 8 c = lN (p8 w)) : ∃ x', loop (fx_X8_writeClub_43_l3 (nI c)) llFuel (x, 48) = some x' ∧ Wr x' (T ++ w.map (fun a => 97 + a)) ∧ WF x x' := by
  have hlt := p8_lt hw.2.2 hw.2.1
  have key := loop_inv (body := fx_X8_writeClub_43_l3 (nI c)) (fun t s => s.2 = sh6 8 t ∧ Wr s.1 (T ++ nmT w t) ∧ WF x s.1) (fun e => Wr e (T ++ w.map (fun a => 97 + a)) ∧ WF x e) 7 llFuel (x, 48) ⟨rfl, by rw [nmT_0 hw.2.1, List.append_nil]; exact h, WF.refl x⟩ (by
      rintro t ⟨s, v⟩ ht ⟨hv, f1, f2⟩
      dsimp only at hv f1 f2
      subst hv
      have e8 : s.2.1 8 c = lN (p8 w) := by rw [(f2.1 8 (by decide)).2.1]; exact h8
      have es : sh6 8 t = nI (8 * (6 - t)) := if_pos ht
      have pw : (2 : Nat) ^ (8 * (6 - t)) = 256 ^ (6 - t) := by rw [Nat.pow_mul]
      have hdig := p8r_dig w.reverse (6 - t) (rev_lt hw.2.2)
      rw [← p8_r, List.length_reverse] at hdig
      have hlen := nmT_len hw.2.1 ht
      have hlt2 : (p8 w / 256 ^ (6 - t)) < 2 ^ 64 := Nat.lt_of_le_of_lt (Nat.div_le_self _ _) (by omega)
      have ev : Int64.toInt32 (((Int64.toUInt64 (lN (p8 w)) >>> (Int64.toUInt64 (Int32.toInt64 (nI (8 * (6 - t)))) &&& Int64.toUInt64 63)).toInt64) &&& 255) = nI (p8 w / 256 ^ (6 - t) % 256) := by
        rw [wb_shr (by omega) (by omega), pw, show (255 : Int64) = lN (2 ^ 8 - 1) from rfl, wb_mask hlt2 (by decide), lN_i]
      unfold fx_X8_writeClub_43_l3 fx_X8_writeClub_43_j33_b3
      dsimp only
      rw [es, if_neg (nI_nneg (by omega)), gI_nI hc (by decide)]
      simp only [lt_eq]
      rw [rL_n (by omega), e8, ev, hdig, ← es, sh6_8 t ht]
      by_cases g : 6 - t < w.length
      · have hm : w.reverse.getD (6 - t) 0 < 26 := rev_lt hw.2.2 _ (getD_in (by rw [List.length_reverse]; exact g))
        rw [if_pos g, if_neg (nI_ne0 (by omega) (by omega))]
        obtain ⟨s', k1, k2, k3⟩ := writeSign_x f1 (by rw [List.length_append]; omega) (97 + w.reverse.getD (6 - t) 0)
        rw [k1, bd_mk]
        refine ⟨_, rfl, rfl, ?_, f2.trans k3⟩
        rw [nmT_s ht, if_pos g, ← List.append_assoc]; exact k2
      · rw [if_neg g, if_pos (show nI 0 = 0 from rfl)]
        refine ⟨_, rfl, rfl, ?_, f2⟩
        rw [nmT_s ht, if_neg g, List.append_nil]; exact f1) (by
      rintro ⟨s, v⟩ ⟨hv, f1, f2⟩
      dsimp only at hv f1 f2
      subst hv
      unfold fx_X8_writeClub_43_l3
      dsimp only
      rw [if_pos (show sh6 8 7 < 0 by decide)]
      rw [nmT_7] at f1
      exact ⟨_, rfl, f1, f2⟩) (llF (by omega))
  obtain ⟨e, e1, e2, e3⟩ := key
  exact ⟨e, e1, e2, e3⟩
theorem nameL_m {m : llMem} {T w : List Nat} {c : Nat} (v1 v2 v3 : Int32) (h : WrM m T) (hT : T.length + 7 ≤ 190) (hc : c < 30) (hw : okW w) (h71 : m.2.1 71 c = lN (p5 w)) : ∃ m', loop (fx_X12_show_69_l45_b18 v1 v2 v3 (nI c)) llFuel (m, 30) = some m' ∧ WrM m' (T ++ w.map (fun a => 97 + a)) ∧ WFm m m' := by
  have hlt := p5_lt hw.2.2 hw.2.1
  have key := loop_inv (body := fx_X12_show_69_l45_b18 v1 v2 v3 (nI c)) (fun t s => s.2 = sh6 5 t ∧ WrM s.1 (T ++ nmT w t) ∧ WFm m s.1) (fun e => WrM e (T ++ w.map (fun a => 97 + a)) ∧ WFm m e) 7 llFuel (m, 30) ⟨rfl, by rw [nmT_0 hw.2.1, List.append_nil]; exact h, WFm.refl m⟩ (by
      rintro t ⟨s, v⟩ ht ⟨hv, f1, f2⟩
      dsimp only at hv f1 f2
      subst hv
      have e71 : s.2.1 71 c = lN (p5 w) := by rw [(f2.1 71 (by decide)).2.1]; exact h71
      have es : sh6 5 t = nI (5 * (6 - t)) := if_pos ht
      have pw : (2 : Nat) ^ (5 * (6 - t)) = 32 ^ (6 - t) := by rw [Nat.pow_mul]
      have hdig := p5r_dig w.reverse (6 - t) (rev_lt hw.2.2)
      rw [← p5_r, List.length_reverse] at hdig
      have hlen := nmT_len hw.2.1 ht
      have hlt2 : (p5 w / 32 ^ (6 - t)) < 2 ^ 64 := Nat.lt_of_le_of_lt (Nat.div_le_self _ _) (by omega)
      have ev : (lN (p5 w) >>> (Int32.toInt64 (nI (5 * (6 - t))) &&& 63)) &&& 31 = lN (p5 w / 32 ^ (6 - t) % 32) := by
        rw [wb_c _ (by omega), pf_shr (d := 5 * (6 - t)) (by rw [wb_tb, wb_sm _ (by omega), BitVec.toNat_ofNat]; exact Nat.mod_eq_of_lt (by omega)) (by omega), pw, show (31 : Int64) = lN (2 ^ 5 - 1) from rfl, wb_mask hlt2 (by decide)]
      unfold fx_X12_show_69_l45_b18 fx_X12_show_69_j91_b45_b18
      dsimp only
      rw [es, if_neg (nI_nneg (by omega)), gI_nI (by omega) (by decide), gI_nI (by omega) (by decide), rL_n (by omega), e71, ev, hdig, ← es]
      simp only [lt_eq]
      rw [sh6_5 t ht]
      by_cases g : 6 - t < w.length
      · have hm : w.reverse.getD (6 - t) 0 < 26 := rev_lt hw.2.2 _ (getD_in (by rw [List.length_reverse]; exact g))
        have ne : ¬ lg_cmp (lN (1 + w.reverse.getD (6 - t) 0)) 0 = 0 := fun q => by
          have := (pk_lEQ (a := 1 + w.reverse.getD (6 - t) 0) (b := 0) (by omega) (by decide)).mp (lg_eq.mp q)
          omega
        have e96 : (96 : Int32) + nI (1 + w.reverse.getD (6 - t) 0) = nI (97 + w.reverse.getD (6 - t) 0) := by
          rw [show (96 : Int32) = nI 96 from rfl, nI_add]; congr 1; omega
        rw [if_pos g, if_neg ne, lN_i, e96]
        obtain ⟨s', k1, k2, k3⟩ := says_m f1 (by rw [List.length_append]; omega) (97 + w.reverse.getD (6 - t) 0)
        rw [k1, bd_mk]
        refine ⟨_, rfl, rfl, ?_, f2.trans k3⟩
        rw [nmT_s ht, if_pos g, ← List.append_assoc]; exact k2
      · rw [if_neg g, if_pos (show lg_cmp (lN 0) 0 = 0 from lg_eq.mpr rfl)]
        refine ⟨_, rfl, rfl, ?_, f2⟩
        rw [nmT_s ht, if_neg g, List.append_nil]; exact f1) (by
      rintro ⟨s, v⟩ ⟨hv, f1, f2⟩
      dsimp only at hv f1 f2
      subst hv
      unfold fx_X12_show_69_l45_b18
      dsimp only
      rw [if_pos (show sh6 5 7 < 0 by decide)]
      rw [nmT_7] at f1
      exact ⟨_, rfl, f1, f2⟩) (llF (by omega))
  obtain ⟨e, e1, e2, e3⟩ := key
  exact ⟨e, e1, e2, e3⟩
/-! numbers -/
def dig (n : Nat) : List Nat := if n < 10 then [48 + n] else if n < 100 then [48 + n / 10, 48 + n % 10] else [48 + n / 100, 48 + n / 10 % 10, 48 + n % 10]
def numT (v : Int) : List Nat := (if v < 0 then [45] else []) ++ dig v.natAbs
theorem dig_len (n : Nat) : (dig n).length ≤ 3 ∧ (n < 100 → (dig n).length ≤ 2) := by
  unfold dig
  split
  · exact ⟨by simp, fun _ => by simp⟩
  · split
    · exact ⟨by simp, fun _ => by simp⟩
    · exact ⟨by simp, fun _ => by omega⟩
theorem q10 {n : Nat} (h : n < 2 ^ 31) : nI n / 10 = nI (n / 10) := pk_div h (by decide) (by decide)
theorem q100 {n : Nat} (h : n < 2 ^ 31) : nI n / 100 = nI (n / 100) := pk_div h (by decide) (by decide)
theorem r10 {n : Nat} (h : n < 2 ^ 31) : nI n - nI n / 10 * 10 = nI (n % 10) := pk_rem h (by decide) (by decide)
theorem a48 (n : Nat) : (48 : Int32) + nI n = nI (48 + n) := nI_add 48 n
theorem gz10 {ρ : Type} {x : Option ρ} : gZ 10 x = x := gZ_ok (by decide)
theorem digits_x {x : llMem} {T : List Nat} {n : Nat} (h : Wr x T) (hT : T.length + 3 ≤ 96) (hn : n ≤ 999) : ∃ x', (if nI n < 100 then fx_X8_writeNumber_43_j32 x (nI n) else gZ 100 (bd (fx_X8_writeSign_43 x (48 + (nI n / 100))) (fun u4 _ => fx_X8_writeNumber_43_j32 u4 (nI n)))) = some (x', ()) ∧ Wr x' (T ++ dig n) ∧ WF x x' := by
  unfold fx_X8_writeNumber_43_j32 fx_X8_writeNumber_43_j52
  simp only [gz10, gz100, q10 (show n < 2 ^ 31 by omega), q100 (show n < 2 ^ 31 by omega)]
  have r1 : nI n - nI (n / 10) * 10 = nI (n % 10) := by rw [← q10 (by omega)]; exact r10 (by omega)
  have r2 : nI (n / 10) - nI (n / 10) / 10 * 10 = nI (n / 10 % 10) := r10 (by omega)
  rw [r1, r2, a48, a48, a48]
  unfold dig
  by_cases e1 : n < 10
  · obtain ⟨x1, k1, k2, k3⟩ := writeSign_x h (by omega) (48 + n % 10)
    rw [if_pos (ltL 100 (by omega) (by decide) (by omega)), if_pos (ltL 10 (by omega) (by decide) e1), k1, bd_mk, if_pos e1, show 48 + n = 48 + n % 10 by omega]
    exact ⟨x1, rfl, k2, k3⟩
  · by_cases e2 : n < 100
    · obtain ⟨x1, k1, k2, k3⟩ := writeSign_x h (by omega) (48 + n / 10 % 10)
      obtain ⟨x2, l1, l2, l3⟩ := writeSign_x k2 (by rw [List.length_append, List.length_singleton]; omega) (48 + n % 10)
      rw [if_pos (ltL 100 (by omega) (by decide) e2), if_neg (nltL 10 (by omega) (by decide) (by omega)), k1, bd_mk, l1, bd_mk, if_neg e1, if_pos e2, show 48 + n / 10 = 48 + n / 10 % 10 by omega]
      refine ⟨x2, rfl, ?_, k3.trans l3⟩
      rw [List.append_assoc] at l2; exact l2
    · obtain ⟨x1, k1, k2, k3⟩ := writeSign_x h (by omega) (48 + n / 100)
      obtain ⟨x2, l1, l2, l3⟩ := writeSign_x k2 (by rw [List.length_append, List.length_singleton]; omega) (48 + n / 10 % 10)
      obtain ⟨x3, m1, m2, m3⟩ := writeSign_x l2 (by rw [List.length_append, List.length_append, List.length_singleton, List.length_singleton]; omega) (48 + n % 10)
      rw [if_neg (nltL 100 (by omega) (by decide) (by omega)), k1, bd_mk, if_neg (nltL 10 (by omega) (by decide) (by omega)), l1, bd_mk, m1, bd_mk, if_neg e1, if_neg e2]
      refine ⟨x3, rfl, ?_, (k3.trans l3).trans m3⟩
      rw [List.append_assoc, List.append_assoc] at m2; exact m2
theorem abs_x {v : Int32} (h : -999 ≤ v.toInt ∧ v.toInt ≤ 999) : (if 0 ≤ v then v else 0 - v) = nI v.toInt.natAbs ∧ (if 0 ≤ v then v else -v) = nI v.toInt.natAbs ∧ (0 ≤ v ↔ ¬ v.toInt < 0) := by
  have c : 0 ≤ v ↔ ¬ v.toInt < 0 := by rw [Int32.le_iff_toInt_le, show (0 : Int32).toInt = 0 from rfl]; omega
  by_cases e : 0 ≤ v
  · rw [if_pos e, if_pos e]
    have := c.mp e
    have q : v = nI v.toInt.natAbs := Int32.toInt_inj.mp (by rw [nI_toInt (by omega)]; omega)
    exact ⟨q, q, c⟩
  · rw [if_neg e, if_neg e]
    have hc : v.toInt < 0 := Classical.byContradiction (fun z => e (c.mpr z))
    refine ⟨Int32.toInt_inj.mp ?_, Int32.toInt_inj.mp ?_, c⟩
    · rw [sub_I (by decide) (by omega), nI_toInt (by omega), show (0 : Int32).toInt = 0 from rfl]; omega
    · rw [Int32.toInt_neg, nI_toInt (by omega), Int.bmod_eq_of_le_mul_two (by omega) (by omega)]; omega
theorem writeNumber_x {x : llMem} {T : List Nat} {v : Int32} (h : Wr x T) (hT : T.length + 4 ≤ 96) (hv : -999 ≤ v.toInt ∧ v.toInt ≤ 999) : ∃ x', fx_X8_writeNumber_43 x v = some (x', ()) ∧ Wr x' (T ++ numT v.toInt) ∧ WF x x' := by
  obtain ⟨a1, _, a2⟩ := abs_x hv
  unfold fx_X8_writeNumber_43 fx_X8_writeNumber_43_j10 numT
  rw [a1]
  simp only [lt_eq]
  by_cases e : 0 ≤ v
  · rw [if_pos e, if_neg (a2.mp e), List.nil_append]
    exact digits_x h (by omega) (by omega)
  · obtain ⟨x1, k1, k2, k3⟩ := writeSign_x h (by omega) 45
    rw [if_neg e, if_pos (Classical.byContradiction (fun z => e (a2.mpr z))), show (45 : Int32) = nI 45 from rfl, k1, bd_mk]
    obtain ⟨x2, l1, l2, l3⟩ := digits_x (n := v.toInt.natAbs) k2 (by rw [List.length_append, List.length_singleton]; omega) (by omega)
    refine ⟨x2, l1, ?_, k3.trans l3⟩
    rw [List.append_assoc] at l2; exact l2
theorem digits_m {m : llMem} {T : List Nat} {n : Nat} (h : WrM m T) (hT : T.length + 3 ≤ 190) (hn : n ≤ 999) : ∃ m', fx_X12_saysNumber_69_j20 m (nI n) = some (m', ()) ∧ WrM m' (T ++ dig n) ∧ WFm m m' := by
  have gz1 : ∀ {ρ : Type} {y : Option ρ}, gZ 1 y = y := fun {ρ} {y} => gZ_ok (by decide)
  have d1 : nI n / 1 = nI n := (pk_div (a := n) (d := 1) (by omega) (by decide) (by decide)).trans (by rw [Nat.div_one])
  have stp1 : ∀ u : llMem, fx_X12_saysNumber_69_l23 u (nI n) 1 = if n ≤ 9 then some (.inr 1) else some (.inl 10) := fun u => by
    unfold fx_X12_saysNumber_69_l23
    rw [gz1, d1, lt_eq]
    by_cases e : n ≤ 9
    · rw [if_pos e, if_pos (leL 9 (by omega) (by decide) e)]
    · rw [if_neg e, if_neg (nleL 9 (by omega) (by decide) (by omega))]; rfl
  have stp10 : ∀ u : llMem, fx_X12_saysNumber_69_l23 u (nI n) 10 = if n / 10 ≤ 9 then some (.inr 10) else some (.inl 100) := fun u => by
    unfold fx_X12_saysNumber_69_l23
    rw [gz10, q10 (by omega), lt_eq]
    by_cases e : n / 10 ≤ 9
    · rw [if_pos e, if_pos (leL 9 (by omega) (by decide) e)]
    · rw [if_neg e, if_neg (nleL 9 (by omega) (by decide) (by omega))]; rfl
  have stp100 : ∀ u : llMem, fx_X12_saysNumber_69_l23 u (nI n) 100 = some (.inr 100) := fun u => by
    unfold fx_X12_saysNumber_69_l23
    rw [gz100, q100 (by omega), if_pos (leL 9 (by omega) (by decide) (by omega))]
  have out0 : ∀ u : llMem, fx_X12_saysNumber_69_l39 (nI n) (u, 0) = some (.inr u) := fun u => by
    unfold fx_X12_saysNumber_69_l39
    dsimp only
    rw [if_pos (by decide)]
  have out1 : ∀ (u u' : llMem), fx_X12_says_69 u (nI (48 + n % 10)) = some (u', ()) → fx_X12_saysNumber_69_l39 (nI n) (u, 1) = some (.inl (u', 0)) := fun u u' q => by
    unfold fx_X12_saysNumber_69_l39
    dsimp only
    rw [if_neg (by decide), gz1, gz10, d1, r10 (by omega), a48, q, bd_mk, gz10, lt_eq]; rfl
  have out10 : ∀ (u u' : llMem), fx_X12_says_69 u (nI (48 + n / 10 % 10)) = some (u', ()) → fx_X12_saysNumber_69_l39 (nI n) (u, 10) = some (.inl (u', 1)) := fun u u' q => by
    unfold fx_X12_saysNumber_69_l39
    dsimp only
    rw [if_neg (by decide), gz10, gz10, q10 (by omega), r10 (by omega), a48, q, bd_mk, gz10, lt_eq]; rfl
  have out100 : ∀ (u u' : llMem), fx_X12_says_69 u (nI (48 + n / 100 % 10)) = some (u', ()) → fx_X12_saysNumber_69_l39 (nI n) (u, 100) = some (.inl (u', 10)) := fun u u' q => by
    unfold fx_X12_saysNumber_69_l39
    dsimp only
    rw [if_neg (by decide), gz100, gz10, q100 (by omega), r10 (by omega), a48, q, bd_mk, gz10, lt_eq]; rfl
  have hf : llFuel = 9990 + 10 := rfl
  unfold fx_X12_saysNumber_69_j20 dig
  rw [hf]
  by_cases e1 : n < 10
  · obtain ⟨x1, k1, k2, k3⟩ := says_m h (by omega) (48 + n % 10)
    rw [loop_inr ((stp1 m).trans (if_pos (by omega))), Option.bind_some, loop_inl (out1 m x1 k1), loop_inr (out0 x1), if_pos e1, show 48 + n = 48 + n % 10 by omega]
    exact ⟨x1, rfl, k2, k3⟩
  · by_cases e2 : n < 100
    · obtain ⟨x1, k1, k2, k3⟩ := says_m h (by omega) (48 + n / 10 % 10)
      obtain ⟨x2, l1, l2, l3⟩ := says_m k2 (by rw [List.length_append, List.length_singleton]; omega) (48 + n % 10)
      rw [loop_inl ((stp1 m).trans (if_neg (by omega))), loop_inr ((stp10 m).trans (if_pos (by omega))), Option.bind_some, loop_inl (out10 m x1 k1), loop_inl (out1 x1 x2 l1), loop_inr (out0 x2), if_neg e1, if_pos e2, show 48 + n / 10 = 48 + n / 10 % 10 by omega]
      refine ⟨x2, rfl, ?_, k3.trans l3⟩
      rw [List.append_assoc] at l2; exact l2
    · obtain ⟨x1, k1, k2, k3⟩ := says_m h (by omega) (48 + n / 100 % 10)
      obtain ⟨x2, l1, l2, l3⟩ := says_m k2 (by rw [List.length_append, List.length_singleton]; omega) (48 + n / 10 % 10)
      obtain ⟨x3, m1, m2, m3⟩ := says_m l2 (by rw [List.length_append, List.length_append, List.length_singleton, List.length_singleton]; omega) (48 + n % 10)
      rw [loop_inl ((stp1 m).trans (if_neg (by omega))), loop_inl ((stp10 m).trans (if_neg (by omega))), loop_inr (stp100 m), Option.bind_some, loop_inl (out100 m x1 k1), loop_inl (out10 x1 x2 l1), loop_inl (out1 x2 x3 m1), loop_inr (out0 x3), if_neg e1, if_neg e2, show 48 + n / 100 = 48 + n / 100 % 10 by omega]
      refine ⟨x3, rfl, ?_, (k3.trans l3).trans m3⟩
      rw [List.append_assoc, List.append_assoc] at m2; exact m2
theorem saysNumber_m {m : llMem} {T : List Nat} {v : Int32} (h : WrM m T) (hT : T.length + 4 ≤ 190) (hv : -999 ≤ v.toInt ∧ v.toInt ≤ 999) : ∃ m', fx_X12_saysNumber_69 m v = some (m', ()) ∧ WrM m' (T ++ numT v.toInt) ∧ WFm m m' := by
  obtain ⟨_, a1, a2⟩ := abs_x hv
  unfold fx_X12_saysNumber_69 fx_X12_saysNumber_69_j10 numT
  by_cases e : 0 ≤ v
  · rw [if_pos e] at a1
    rw [if_pos e, if_pos e, if_neg (a2.mp e), List.nil_append]
    obtain ⟨x2, l1, l2, l3⟩ := digits_m (n := v.toInt.natAbs) h (by omega) (by omega)
    rw [← a1] at l1
    exact ⟨x2, l1, l2, l3⟩
  · rw [if_neg e] at a1
    obtain ⟨x1, k1, k2, k3⟩ := says_m h (by omega) 45
    rw [if_neg e, if_pos (Classical.byContradiction (fun z => e (a2.mpr z))), show (45 : Int32) = nI 45 from rfl, k1, bd_mk, if_neg e, a1]
    obtain ⟨x2, l1, l2, l3⟩ := digits_m (n := v.toInt.natAbs) k2 (by rw [List.length_append, List.length_singleton]; omega) (by omega)
    refine ⟨x2, l1, ?_, k3.trans l3⟩
    rw [List.append_assoc] at l2; exact l2
