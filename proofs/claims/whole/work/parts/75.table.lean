/-! show in step -/
def txC (A : Ab) (x : llMem) (c : Nat) : List Nat := (A.ws c).map (fun a => 97 + a) ++ [32] ++ numT (PI x c) ++ [32] ++ numT (Sn x 0 c) ++ [59]
theorem numT_len {v : Int} (h : -999 ≤ v ∧ v ≤ 99) : (numT v).length ≤ 4 ∧ (0 ≤ v → (numT v).length ≤ 2) := by
  unfold numT
  obtain ⟨d1, d2⟩ := dig_len v.natAbs
  by_cases e : v < 0
  · rw [if_pos e, List.length_append, List.length_singleton]
    exact ⟨by omega, fun _ => by omega⟩
  · have := d2 (by omega)
    rw [if_neg e, List.nil_append]
    exact ⟨by omega, fun _ => by omega⟩
theorem txC_len {A : Ab} {x m : llMem} {mc : Nat} {ml : Nat → Nat × Nat} (hp : IPyr A x m) (hs : ISea A x m mc ml) {c : Nat} (hc : c < A.nc) : (txC A x c).length ≤ 16 := by
  obtain ⟨a1, a2, _⟩ := PI_ok hp hs hc
  obtain ⟨_, _, _, _, _, b, _⟩ := SnB hp hs hc
  have h7 := (hp.cl hc).2.2.2.2.2.2.1.1.2.1
  have n1 := (numT_len (v := PI x c) (by omega)).1
  have n2 := (numT_len (v := (Sn x 0 c : Int)) (by omega)).2 (by omega)
  unfold txC
  simp only [List.length_append, List.length_singleton, List.length_map]
  omega
theorem writeClub_x {A : Ab} {x m u : llMem} {mc : Nat} {ml : Nat → Nat × Nat} (hp : IPyr A x m) (hs : ISea A x m mc ml) {c : Nat} (hc : c < A.nc) {T : List Nat} (h : Wr u T) (hT : T.length + 16 ≤ 96) (h8 : u.2.1 8 c = x.2.1 8 c) (h46 : u.1 46 c = ptI x c) (h21 : u.1 21 c = x.1 21 c) : ∃ u', fx_X8_writeClub_43 u (nI c) = some (u', ()) ∧ Wr u' (T ++ txC A x c) ∧ WF u u' := by
  have hn := hp.ncB
  obtain ⟨a1, a2, _⟩ := PI_ok hp hs hc
  obtain ⟨b0, _, _, _, _, b, _⟩ := SnB hp hs hc
  have q := hp.cl hc
  have h7 := q.2.2.2.2.2.2.1.1.2.1
  have n1 := (numT_len (v := PI x c) (by omega)).1
  have n2 := (numT_len (v := (Sn x 0 c : Int)) (by omega)).2 (by omega)
  have hz : (x.1 21 c).toInt = (Sn x 0 c : Int) := by rw [b0]; exact nI_toInt (by omega)
  obtain ⟨u1, k1, k2, k3⟩ := nameL_x h (by omega) (show c < 30 by omega) q.2.2.2.2.2.2.1.1 (by rw [h8]; exact q.2.2.2.2.2.2.2.1)
  have L1 : (T ++ (A.ws c).map (fun a => 97 + a)).length ≤ T.length + 7 := by rw [List.length_append, List.length_map]; omega
  obtain ⟨u2, l1, l2, l3⟩ := writeSign_x k2 (by omega) 32
  have L2 : (T ++ (A.ws c).map (fun a => 97 + a) ++ [32]).length ≤ T.length + 8 := by rw [List.length_append, List.length_singleton]; omega
  obtain ⟨u3, m1, m2, m3⟩ := writeNumber_x (v := ptI x c) l2 (by omega) ⟨a1, by unfold PI at a2; omega⟩
  have L3 : (T ++ (A.ws c).map (fun a => 97 + a) ++ [32] ++ numT (PI x c)).length ≤ T.length + 12 := by rw [List.length_append]; omega
  obtain ⟨u4, o1, o2, o3⟩ := writeSign_x m2 (by unfold PI at L3; omega) 32
  have L4 : (T ++ (A.ws c).map (fun a => 97 + a) ++ [32] ++ numT (PI x c) ++ [32]).length ≤ T.length + 13 := by rw [List.length_append, List.length_singleton]; omega
  have L4' := L4
  unfold PI at L4'
  have hT4 : (T ++ (A.ws c).map (fun a => 97 + a) ++ [32] ++ numT ((ptI x c).toInt) ++ [32]).length + 3 ≤ 96 := by omega
  obtain ⟨u5, r1, r2, r3⟩ : ∃ x', fx_X8_writeNumber_43 u4 (x.1 21 c) = some (x', ()) ∧ Wr x' (T ++ (A.ws c).map (fun a => 97 + a) ++ [32] ++ numT ((ptI x c).toInt) ++ [32] ++ numT (Sn x 0 c)) ∧ WF u4 x' := by
    obtain ⟨a1', _, a2'⟩ := abs_x (v := x.1 21 c) (by omega)
    have e : 0 ≤ x.1 21 c := a2'.mpr (by omega)
    rw [if_pos e] at a1'
    unfold fx_X8_writeNumber_43 fx_X8_writeNumber_43_j10 numT
    rw [if_pos e, if_pos e, if_neg (show ¬ (Sn x 0 c : Int) < 0 by omega), List.nil_append, a1', hz]
    simp only [lt_eq]
    exact digits_x o2 hT4 (by omega)
  have L5 : (T ++ (A.ws c).map (fun a => 97 + a) ++ [32] ++ numT ((ptI x c).toInt) ++ [32] ++ numT (Sn x 0 c)).length ≤ T.length + 15 := by rw [List.length_append]; omega
  obtain ⟨u6, s1, s2, s3⟩ := writeSign_x r2 (by omega) 59
  have F3 := ((k3.trans l3).trans m3).trans o3
  unfold fx_X8_writeClub_43
  rw [k1, Option.bind_some, show (32 : Int32) = nI 32 from rfl, show (59 : Int32) = nI 59 from rfl, l1, bd_mk, gI_nI (by omega) (by decide), rI_n (by omega), ((k3.trans l3).1 46 (by decide)).1, h46, m1, bd_mk, o1, bd_mk, gI_nI (by omega) (by decide), rI_n (by omega), (F3.1 21 (by decide)).1, h21, r1, bd_mk, s1, bd_mk]
  refine ⟨u6, rfl, ?_, (F3.trans r3).trans s3⟩
  have e : T ++ txC A x c = T ++ (A.ws c).map (fun a => 97 + a) ++ [32] ++ numT ((ptI x c).toInt) ++ [32] ++ numT (Sn x 0 c) ++ [59] := by
    unfold txC PI
    simp only [List.append_assoc]
  rw [e]; exact s2
theorem flat_len {f : Nat → List Nat} {B : Nat} : ∀ (L : List Nat), (∀ c, c ∈ L → (f c).length ≤ B) → (L.flatMap f).length ≤ B * L.length
  | [], _ => by simp
  | a :: L, h => by
    have := flat_len L (fun c hc => h c (List.mem_cons_of_mem _ hc))
    have h1 := h a (List.mem_cons_self ..)
    rw [List.flatMap_cons, List.length_append, List.length_cons, Nat.mul_succ]; omega
theorem write_x {A : Ab} {x m u : llMem} {mc : Nat} {ml : Nat → Nat × Nat} (hp : IPyr A x m) (hs : ISea A x m mc ml) {l d : Nat} (hl : l < A.nl) (hd : d < A.dv l) (hA : Arr A x x u l) : ∃ u', fx_X8_write_43 u (nI d) = some (u', ()) ∧ Wr u' ((divL A x l d).flatMap (txC A x)) ∧ WF u u' := by
  have hn := hp.ncB
  have h12 := row_12 hp hl
  have hd3 := (hp.lv hl).2.2.2.2.2.2.2.2.2.1
  have hz := (hp.lv hl).2.2.2.2.2.2.2.2.2.2.2.1
  have hlen := divL_len (x := x) hp hl hd
  have W0 : Wr (llSI u 43 6 0) [] := ⟨by rw [SI_same, upd_same]; rfl, fun k hk => by simp at hk⟩
  have F0 : WF u (llSI u 43 6 0) := ⟨Sm.SI (by simp), fun k hk => SI_at hk⟩
  obtain ⟨e, e1, e2, e3⟩ := loop_inv (body := fx_X8_write_43_l7 (nI d)) (fun i s => s.2 = nI i ∧ Wr s.1 ((((ordL A x l).take i).filter (fun c => decide (A.st c = some (l, d)))).flatMap (txC A x)) ∧ WF u s.1) (fun e => Wr e ((divL A x l d).flatMap (txC A x)) ∧ WF u e) (rowOf A l).length llFuel (llSI u 43 6 0, 0) ⟨rfl, W0, F0⟩ (by
      rintro i ⟨s, v⟩ hi ⟨hv, f1, f2⟩
      dsimp only at hv f1 f2
      subst hv
      have hi' : i < (ordL A x l).length := by rw [ordL_len]; exact hi
      obtain ⟨c1, c2⟩ := ordL_mem.mp (getD_in hi')
      obtain ⟨f, c3⟩ := lv_some c2
      have hf := ((hp.cl c1).stB l f c3).2
      have s43 : s.1 43 2 = nI (rowOf A l).length := by rw [f2.2 2 (by decide)]; exact hA.2.2.1
      have s44 : s.1 44 i = nI ((ordL A x l).getD i 0) := by rw [(f2.1 44 (by decide)).1]; exact hA.2.2.2.1 i hi
      have s13 : s.1 13 ((ordL A x l).getD i 0) = nI f := by rw [(f2.1 13 (by decide)).1, (hA.1 13 (by decide)).1, (hp.cl c1).x13, (lvI_some c3).2]
      unfold fx_X8_write_43_l7 fx_X8_write_43_j43_b7
      dsimp only
      rw [s43, if_neg (nle2 (by omega) (by omega) hi)]
      simp only [gI_nI (show i < 12 by omega) (show 12 < 2 ^ 31 by decide), rI_n (show i < 2 ^ 31 by omega), s44, gI_nI (show (ordL A x l).getD i 0 < 30 by omega) (show 30 < 2 ^ 31 by decide), rI_n (show (ordL A x l).getD i 0 < 2 ^ 31 by omega), s13, lt_eq, nI_1]
      by_cases g : f = d
      · subst g
        have ft : ((ordL A x l).take (i + 1)).filter (fun c => decide (A.st c = some (l, f))) = ((ordL A x l).take i).filter (fun c => decide (A.st c = some (l, f))) ++ [(ordL A x l).getD i 0] := by
          rw [take_s hi', List.filter_append, List.filter_cons_of_pos (by rw [decide_eq_true_iff]; exact c3), List.filter_nil]
        have hle : (((ordL A x l).take (i + 1)).filter (fun c => decide (A.st c = some (l, f)))).length ≤ (divL A x l f).length := ((List.take_sublist (i + 1) (ordL A x l)).filter _).length_le
        rw [ft, List.length_append, List.length_singleton] at hle
        have hfl := flat_len (f := txC A x) (B := 16) (((ordL A x l).take i).filter (fun c => decide (A.st c = some (l, f)))) (fun c hc => txC_len hp hs (ordL_mem.mp (List.mem_of_mem_take (List.mem_filter.mp hc).1)).1)
        obtain ⟨s', k1, k2, k3⟩ := writeClub_x (u := s) hp hs c1 f1 (by omega) (by rw [(f2.1 8 (by decide)).2.1, (hA.1 8 (by decide)).2.1]) (by rw [(f2.1 46 (by decide)).1]; exact (hA.2.2.2.2 _ (row_mem.mpr ⟨c1, c2⟩)).2) (by rw [(f2.1 21 (by decide)).1, (hA.1 21 (by decide)).1])
        rw [if_neg (fun z => z rfl), k1, bd_mk]
        refine ⟨_, rfl, rfl, ?_, f2.trans k3⟩
        rw [ft, List.flatMap_append, List.flatMap_singleton]; exact k2
      · have ft : ((ordL A x l).take (i + 1)).filter (fun c => decide (A.st c = some (l, d))) = ((ordL A x l).take i).filter (fun c => decide (A.st c = some (l, d))) := by
          rw [take_s hi', List.filter_append, List.filter_cons_of_neg (by rw [decide_eq_true_iff, c3]; intro z; simp at z; exact g z), List.filter_nil, List.append_nil]
        rw [if_pos (fun z => g (nI_inj (by omega) (by omega) z))]
        refine ⟨_, rfl, rfl, ?_, f2⟩
        rw [ft]; exact f1) (by
      rintro ⟨s, v⟩ ⟨hv, f1, f2⟩
      dsimp only at hv f1 f2
      subst hv
      have s43 : s.1 43 2 = nI (rowOf A l).length := by rw [f2.2 2 (by decide)]; exact hA.2.2.1
      unfold fx_X8_write_43_l7
      dsimp only
      rw [s43, if_pos (le2 (by omega) (by omega) (Nat.le_refl _))]
      rw [← ordL_len A x l, List.take_length] at f1
      exact ⟨_, rfl, f1, f2⟩) (llF (by omega))
  unfold fx_X8_write_43
  rw [lt_eq, e1]
  exact ⟨e, rfl, e2, e3⟩
theorem IPyr.wf {A : Ab} {x m m' : llMem} (h : IPyr A x m) (hw : WFm m m') : IPyr A x m' := by
  refine h.of (fun _ _ => ⟨rfl, rfl⟩) (fun c hc => ?_) (hw.2 1 (by decide)) (hw.2 9 (by decide))
  simp only [List.mem_cons, List.not_mem_nil, or_false] at hc
  exact ⟨(hw.1 c (by simp; omega)).1, (hw.1 c (by simp; omega)).2.1⟩
theorem ISea.wf {A : Ab} {x m m' : llMem} {mc : Nat} {ml : Nat → Nat × Nat} (h : ISea A x m mc ml) (hw : WFm m m') : ISea A x m' mc ml := h.of (fun _ _ => rfl) rfl (hw.1 77 (by decide)).1
/-- what show may change in the reference -/
def ShM (m m' : llMem) : Prop := Sm [69, 81, 82, 83, 84, 85, 100] m m' ∧ ∀ k, k ≠ 53 → m'.1 69 k = m.1 69 k
theorem ShM.trans {a b c : llMem} (h1 : ShM a b) (h2 : ShM b c) : ShM a c := ⟨h1.1.trans h2.1, fun k hk => (h2.2 k hk).trans (h1.2 k hk)⟩
theorem ShM.wf {a b : llMem} (h : WFm a b) : ShM a b := ⟨h.1.mono (by simp), h.2⟩
theorem ShM.rk {A : Ab} {x m m' : llMem} (h : RkM A x m m') : ShM m m' := ⟨h.1.mono (by simp), fun k _ => by rw [(h.1 69 (by decide)).1]⟩
theorem IPyr.shm {A : Ab} {x m m' : llMem} (h : IPyr A x m) (hw : ShM m m') : IPyr A x m' := by
  refine h.of (fun _ _ => ⟨rfl, rfl⟩) (fun c hc => ?_) (hw.2 1 (by decide)) (hw.2 9 (by decide))
  simp only [List.mem_cons, List.not_mem_nil, or_false] at hc
  exact ⟨(hw.1 c (by simp; omega)).1, (hw.1 c (by simp; omega)).2.1⟩
theorem ISea.shm {A : Ab} {x m m' : llMem} {mc : Nat} {ml : Nat → Nat × Nat} (h : ISea A x m mc ml) (hw : ShM m m') : ISea A x m' mc ml := h.of (fun _ _ => rfl) rfl (hw.1 77 (by decide)).1
theorem ranked_m {A : Ab} {x m : llMem} {mc : Nat} {ml : Nat → Nat × Nat} (hp : IPyr A x m) (hs : ISea A x m mc ml) {l d i : Nat} (hl : l < A.nl) (hd : d < A.dv l) (hi : i < A.sz l) : ∃ m', fx_X12_ranked_69 m (nI l) (nI d) (nI (i + 1)) = some (m', nI ((divL A x l d).getD i 0)) ∧ RkM A x m m' := by
  obtain ⟨m', f1, f2⟩ := laysRanks_m hp hs
  have hn2 := hp.nlB
  have hd3 := (hp.lv hl).2.2.2.2.2.2.2.2.2.1
  have i4 : (4 : Int32) * nI l + 0 = nI (4 * l) := by rw [show (0 : Int32) = nI 0 from rfl, ix4, Nat.add_zero]
  have p2 : fx_X12_isDivision_69 m (nI l) (nI d) = some 1 := by
    unfold fx_X12_isDivision_69 fx_X12_isLevel_69
    rw [hp.m1]
    rcases arg_in (nI l) (k := A.nl) (by omega) with ⟨c, h1, h2, h3⟩ | ⟨h1, h3⟩
    · rw [h3, Option.bind_some, gB_1, Option.bind_some, if_neg one_ne, i4, gI_nI (by omega) (by decide), rI_n (by omega), (hp.lv hl).2.2.2.2.1]
      rcases arg_in (nI d) (k := A.dv l) (by omega) with ⟨c, g1, g2, g3⟩ | ⟨g1, g3⟩
      · rw [g3, Option.bind_some, if_neg one_ne]
      · exfalso
        rcases g1 with g1 | ⟨g1, g2⟩
        · exact nI_nneg (by omega) g1
        · exact nle2 (by omega) (by omega) hd g2
    · exfalso
      rcases h1 with h1 | ⟨h1, h2⟩
      · exact nI_nneg (by omega) h1
      · exact nle2 (by omega) (by omega) hl h2
  unfold fx_X12_ranked_69
  rw [p2, Option.bind_some, if_pos one_ne, f1, bd_mk, rankedL_m hp hl hd f2, at_rank hp hl hd hi]
  exact ⟨m', rfl, f2⟩
theorem show_m {A : Ab} {x m : llMem} {mc : Nat} {ml : Nat → Nat × Nat} (hp : IPyr A x m) (hs : ISea A x m mc ml) {l d : Nat} (hl : l < A.nl) (hd : d < A.dv l) : ∃ m', loop (fx_X12_show_69_l18 (nI l) (nI d)) llFuel (llSI m 69 53 0, 1) = some m' ∧ WrM m' ((divL A x l d).flatMap (txC A x)) ∧ ShM m m' := by
  have hn := hp.ncB
  have hn2 := hp.nlB
  have hz := (hp.lv hl).2.2.2.2.2.2.2.2.2.2.2.1
  have hlen := divL_len (x := x) hp hl hd
  have i4 : (4 : Int32) * nI l + 1 = nI (4 * l + 1) := ix4 l 1
  have W0 : WrM (llSI m 69 53 0) [] := ⟨by rw [SI_same, upd_same]; rfl, fun k hk => by simp at hk⟩
  have F0 : ShM m (llSI m 69 53 0) := ⟨Sm.SI (by simp), fun k hk => SI_at hk⟩
  obtain ⟨e, e1, e2, e3⟩ := loop_inv (body := fx_X12_show_69_l18 (nI l) (nI d)) (fun i s => s.2 = nI (i + 1) ∧ WrM s.1 (((divL A x l d).take i).flatMap (txC A x)) ∧ ShM m s.1) (fun e => WrM e ((divL A x l d).flatMap (txC A x)) ∧ ShM m e) (A.sz l) llFuel (llSI m 69 53 0, 1) ⟨rfl, W0, F0⟩ (by
      rintro i ⟨s, v⟩ hi ⟨hv, f1, f2⟩
      dsimp only at hv f1 f2
      subst hv
      have hi' : i < (divL A x l d).length := by omega
      obtain ⟨c1, c3⟩ := divL_mem.mp (getD_in hi')
      have ps := hp.shm f2
      have ss := hs.shm f2
      obtain ⟨s1, r1, r2⟩ := ranked_m ps ss hl hd hi
      have F1 := f2.trans (ShM.rk r2)
      have hfl := flat_len (f := txC A x) (B := 16) ((divL A x l d).take i) (fun c hc => txC_len hp hs (divL_mem.mp (List.mem_of_mem_take hc)).1)
      rw [List.length_take] at hfl
      have W1 : WrM s1 (((divL A x l d).take i).flatMap (txC A x)) := by
        refine ⟨by rw [(r2.1 69 (by decide)).1]; exact f1.1, fun k hk => ?_⟩
        rw [(r2.1 100 (by decide)).1]; exact f1.2 k hk
      obtain ⟨T, hTe⟩ : ∃ T, T = ((divL A x l d).take i).flatMap (txC A x) := ⟨_, rfl⟩
      rw [← hTe] at f1 hfl W1
      have hT : T.length + 16 ≤ 112 := by omega
      have q := hp.cl c1
      have h7 := q.2.2.2.2.2.2.1.1.2.1
      obtain ⟨a1, a2, _⟩ := PI_ok hp hs c1
      obtain ⟨b0, _, _, _, _, b, _⟩ := SnB hp hs c1
      have hz0 : (x.1 21 ((divL A x l d).getD i 0)).toInt = (Sn x 0 ((divL A x l d).getD i 0) : Int) := by rw [b0]; exact nI_toInt (by omega)
      have n1 := (numT_len (v := PI x ((divL A x l d).getD i 0)) (by omega)).1
      obtain ⟨u1, k1, k2, k3⟩ := nameL_m (nI l) (nI d) (nI (i + 1)) W1 (by omega) (show (divL A x l d).getD i 0 < 30 by omega) q.2.2.2.2.2.2.1.1 (by rw [(F1.1 71 (by decide)).2.1]; exact q.2.2.2.2.2.2.2.2.1)
      have L1 : (T ++ (A.ws ((divL A x l d).getD i 0)).map (fun a => 97 + a)).length ≤ T.length + 7 := by rw [List.length_append, List.length_map]; omega
      obtain ⟨u2, l1, l2, l3⟩ := says_m k2 (by omega) 32
      have L2 : (T ++ (A.ws ((divL A x l d).getD i 0)).map (fun a => 97 + a) ++ [32]).length ≤ T.length + 8 := by rw [List.length_append, List.length_singleton]; omega
      have F2 := F1.trans (ShM.wf (k3.trans l3))
      obtain ⟨u3, m1, m2, m3⟩ := saysNumber_m (v := ptI x ((divL A x l d).getD i 0)) l2 (by omega) ⟨a1, by unfold PI at a2; omega⟩
      have L3 : (T ++ (A.ws ((divL A x l d).getD i 0)).map (fun a => 97 + a) ++ [32] ++ numT ((ptI x ((divL A x l d).getD i 0)).toInt)).length ≤ T.length + 12 := by
        unfold PI at n1
        rw [List.length_append]; omega
      obtain ⟨u4, o1, o2, o3⟩ := says_m m2 (by omega) 32
      have L4 : (T ++ (A.ws ((divL A x l d).getD i 0)).map (fun a => 97 + a) ++ [32] ++ numT ((ptI x ((divL A x l d).getD i 0)).toInt) ++ [32]).length ≤ T.length + 13 := by rw [List.length_append, List.length_singleton]; omega
      have F4 := F2.trans (ShM.wf (m3.trans o3))
      obtain ⟨u5, t1, t2, t3⟩ := saysNumber_m (v := x.1 21 ((divL A x l d).getD i 0)) o2 (by omega) (by omega)
      have n2 := (numT_len (v := (Sn x 0 ((divL A x l d).getD i 0) : Int)) (by omega)).2 (by omega)
      rw [hz0] at t2
      have L5 : (T ++ (A.ws ((divL A x l d).getD i 0)).map (fun a => 97 + a) ++ [32] ++ numT ((ptI x ((divL A x l d).getD i 0)).toInt) ++ [32] ++ numT (Sn x 0 ((divL A x l d).getD i 0))).length ≤ T.length + 15 := by rw [List.length_append]; omega
      obtain ⟨u6, w1, w2, w3⟩ := says_m t2 (by omega) 59
      unfold fx_X12_show_69_l18
      dsimp only
      rw [i4, gI_nI (by omega) (by decide), rI_n (by omega), (ps.lv hl).2.2.2.2.2.1, if_neg (nlt2 (by omega) (by omega) (by omega)), r1, bd_mk, k1, Option.bind_some, show (32 : Int32) = nI 32 from rfl, show (59 : Int32) = nI 59 from rfl, l1, bd_mk, pointsOf_m (hp.shm F2) (hs.shm F2) c1, Option.bind_some, m1, bd_mk, o1, bd_mk, show fx_X12_sumOf_69 u4 (nI ((divL A x l d).getD i 0)) 0 = some (x.1 21 ((divL A x l d).getD i 0)) from sumOf_e (hp.shm F4) (hs.shm F4) c1 (w := 0) (by decide), Option.bind_some, t1, bd_mk, w1, bd_mk, lt_eq, nI_1]
      refine ⟨_, rfl, rfl, ?_, (F4.trans (ShM.wf t3)).trans (ShM.wf w3)⟩
      rw [take_s hi', List.flatMap_append, List.flatMap_singleton, ← hTe]
      have e : ∀ T' : List Nat, T' ++ txC A x ((divL A x l d).getD i 0) = T' ++ (A.ws ((divL A x l d).getD i 0)).map (fun a => 97 + a) ++ [32] ++ numT ((ptI x ((divL A x l d).getD i 0)).toInt) ++ [32] ++ numT (Sn x 0 ((divL A x l d).getD i 0)) ++ [59] := by
        intro T'
        unfold txC PI
        simp only [List.append_assoc]
      rw [e]; exact w2) (by
      rintro ⟨s, v⟩ ⟨hv, f1, f2⟩
      dsimp only at hv f1 f2
      subst hv
      have ps := hp.shm f2
      unfold fx_X12_show_69_l18
      dsimp only
      rw [i4, gI_nI (by omega) (by decide), rI_n (by omega), (ps.lv hl).2.2.2.2.2.1, if_pos (lt2 (by omega) (by omega) (by omega))]
      rw [← hlen, List.take_length] at f1
      exact ⟨_, rfl, f1, f2⟩) (llF (by omega))
  exact ⟨e, e1, e2, e3⟩
theorem InvA.sh {A : Ab} {x m x' m' : llMem} {mc : Nat} {ml : Nat → Nat × Nat} {k : Nat} {cj : Nat → Nat} (h : InvA A x m mc ml k cj) (hx : ∀ c, c < 31 ∨ c = 49 ∨ c = 53 ∨ c = 54 ∨ c = 55 ∨ c = 60 → x'.1 c = x.1 c ∧ x'.2.1 c = x.2.1 c) (hm : ∀ c, 70 ≤ c → c < 80 → m'.1 c = m.1 c ∧ m'.2.1 c = m.2.1 c) (m69 : ∀ k, k ∈ [1, 9, 11, 14, 16, 17, 18] → m'.1 69 k = m.1 69 k) (hs : ISh x' m') : InvA A x' m' mc ml k cj := by
  obtain ⟨h1, h2, h3, h4, h5, h6, h7, h8, h9⟩ := h
  have xx : ∀ c, c < 31 → x'.1 c = x.1 c ∧ x'.2.1 c = x.2.1 c := fun c hc => hx c (Or.inl hc)
  refine ⟨h1.of (fun c hc => ?_) (fun c hc => ?_) (m69 1 (by simp)) (m69 9 (by simp)), h2.of (fun c hc => ?_) (by rw [(xx 14 (by decide)).1]) (hm 77 (by decide) (by decide)).1, h3.of (fun c hc => ?_) (by rw [(xx 26 (by decide)).1]) (hm 77 (by decide) (by decide)).1 (hm 78 (by decide) (by decide)).1 (m69 14 (by simp)), ?_, hs, h6.of (by rw [(xx 1 (by decide)).1]) (xx 2 (by decide)).1 (m69 16 (by simp)) (hm 79 (by decide) (by decide)).1, ?_, ?_, ?_⟩
  · simp only [List.mem_cons, List.not_mem_nil, or_false] at hc
    exact hx c (by omega)
  · simp only [List.mem_cons, List.not_mem_nil, or_false] at hc
    exact hm c (by omega) (by omega)
  · simp only [List.mem_cons, List.not_mem_nil, or_false] at hc
    exact (xx c (by omega)).1
  · simp only [List.mem_cons, List.not_mem_nil, or_false] at hc
    exact (xx c (by omega)).1
  · unfold ICa at h4 ⊢
    rw [(hx 53 (by simp)).1, (hx 54 (by simp)).1, (hx 55 (by simp)).1, (hx 60 (by simp)).1]
    exact h4
  · unfold IFa at h7 ⊢
    rw [(xx 1 (by decide)).1, m69 17 (by simp), m69 18 (by simp)]
    exact h7
  · rw [m69 11 (by simp), (xx 14 (by decide)).1]
    exact h8
  · unfold IRe at h9 ⊢
    rw [(xx 18 (by decide)).1]
    exact h9
theorem show_S (a b : Int32) : Step (fun u => fx_X11_show_0 u a b) (fun u => fx_X12_show_69 u a b) := by
  rintro x m ⟨A, mc, ml, k, cj, h⟩
  have hp := h.1
  have hs := h.2.1
  dsimp only
  unfold fx_X11_show_0 fx_X12_show_69
  rcases hasDivision_B hp a b with ⟨l, d, hl, hd, rfl, rfl, p1, p2⟩ | ⟨p1, p2⟩
  · have hz := (hp.lv hl).2.2.2.2.2.2.2.2.2.2.2.1
    have hlen := divL_len (x := x) hp hl hd
    obtain ⟨x1, e1, e2⟩ := arrange_x hp hs hl (Bas.refl x)
    obtain ⟨x2, f1, f2, f3⟩ := write_x hp hs hl hd e2
    obtain ⟨m2, g1, g2, g3⟩ := show_m hp hs hl hd
    have hfl := flat_len (f := txC A x) (B := 16) (divL A x l d) (fun c hc => txC_len hp hs (divL_mem.mp hc).1)
    rw [p1, p2, Option.bind_some, Option.bind_some, if_pos one_ne, if_pos one_ne, e1, bd_mk, f1, bd_mk, lt_eq, g1, Option.bind_some, f2.1, g2.1]
    have fx : ∀ c, c < 43 ∨ c = 49 ∨ 50 < c → x2.1 c = x.1 c ∧ x2.2.1 c = x.2.1 c := fun c hc => by
      have a1 := f3.1 c (by simp; omega)
      have a2 := e2.1 c (by simp; omega)
      exact ⟨a1.1.trans a2.1, a1.2.1.trans a2.2.1⟩
    have fm : ∀ c, c ∉ [69, 81, 82, 83, 84, 85, 100] → m2.1 c = m.1 c ∧ m2.2.1 c = m.2.1 c := fun c hc => ⟨(g3.1 c hc).1, (g3.1 c hc).2.1⟩
    refine ⟨x2, m2, _, rfl, rfl, ⟨A, mc, ml, k, cj, h.sh (fun c hc => fx c (by omega)) (fun c h1 h2 => fm c (by simp; omega)) (fun j hj => g3.2 j (by simp only [List.mem_cons, List.not_mem_nil, or_false] at hj; omega)) ⟨((divL A x l d).flatMap (txC A x)).length, by omega, f2.1, g2.1, fun j hj => by rw [f2.2 j hj, g2.2 j hj]⟩⟩, fun c hc => fx c (by omega), fun c hc => fm c (by simp; omega)⟩
  · rw [p1, p2]; exact ⟨x, m, _, rfl, rfl, ⟨A, mc, ml, k, cj, h⟩, OX.refl x, OM.refl m⟩
