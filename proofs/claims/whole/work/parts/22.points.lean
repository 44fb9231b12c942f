/-! ===== a row's points: gather, findLike, firstFrom, load ===== -/
theorem pts_rng {o : Nat} (h : PtsAt o) : 7 ≤ o ∧ o ≤ 27 := by
  have hk : ∀ o, o < 100 → (SHP[o]?).map (fun q => q.1) = some 6 → 7 ≤ o ∧ o ≤ 27 := by decide +kernel
  have h1 := h.1
  have hlt : o < 100 := (List.getElem?_eq_some_iff.mp h1).1
  exact hk o hlt (by rw [h1]; rfl)
/-- the days below n that are not gaps -/
def dys (f : Nat → Int32) (n : Nat) : List Nat := (List.range n).filter fun d => decide (f d ≠ -9999)
theorem dys_0 (f : Nat → Int32) : dys f 0 = [] := rfl
theorem dys_gap {f : Nat → Int32} {n : Nat} (h : f n = -9999) : dys f (n + 1) = dys f n := by
  simp [dys, List.range_succ, h]
theorem dys_day {f : Nat → Int32} {n : Nat} (h : ¬ f n = -9999) : dys f (n + 1) = dys f n ++ [n] := by
  simp [dys, List.range_succ, h]
theorem dys_len (f : Nat → Int32) (n : Nat) : (dys f n).length ≤ n := by
  have := List.length_filter_le (fun d => decide (f d ≠ -9999)) (List.range n)
  simpa [dys] using this
theorem dys_mem {f : Nat → Int32} {n d : Nat} : d ∈ dys f n ↔ d < n ∧ ¬ f d = -9999 := by simp [dys]
/-- the first place of a value -/
def fix (vs : List Int32) (v : Int32) : Nat := match vs with
  | [] => 0
  | a :: t => if a = v then 0 else fix t v + 1
theorem fix_no : ∀ (vs : List Int32) (v : Int32), (∀ j, j < vs.length → vs.getD j 0 ≠ v) → fix vs v = vs.length := by
  intro vs v
  induction vs with
  | nil => intro _; rfl
  | cons a t ih =>
    intro h
    have h0 : ¬ a = v := by simpa using h 0 (by simp)
    simp only [fix, if_neg h0, List.length_cons]
    rw [ih (fun j hj => by simpa using h (j + 1) (by simpa using hj))]
theorem fix_at : ∀ (vs : List Int32) (v : Int32) (i : Nat), i < vs.length → vs.getD i 0 = v → (∀ j, j < i → vs.getD j 0 ≠ v) → fix vs v = i := by
  intro vs v
  induction vs with
  | nil => intro i h; simp at h
  | cons a t ih =>
    intro i hi hv hno
    cases i with
    | zero => simp only [fix]; rw [if_pos (by simpa using hv)]
    | succ i =>
      have h0 : ¬ a = v := by simpa using hno 0 (by omega)
      simp only [fix, if_neg h0]
      rw [ih i (by simpa using hi) (by simpa using hv) (fun j hj => by simpa using hno (j + 1) (by omega))]
theorem fix_in : ∀ (vs : List Int32) (v : Int32), v ∈ vs → fix vs v < vs.length ∧ vs.getD (fix vs v) 0 = v := by
  intro vs v
  induction vs with
  | nil => intro h; simp at h
  | cons a t ih =>
    intro h
    by_cases h0 : a = v
    · simp [fix, h0]
    · rcases List.mem_cons.mp h with h1 | h1
      · exact absurd h1.symm h0
      · have := ih h1
        simp only [fix, if_neg h0]
        simpa using this
theorem fix_app {vs : List Int32} {v w : Int32} (h : v ∈ vs) : fix (vs ++ [w]) v = fix vs v := by
  induction vs with
  | nil => simp at h
  | cons a t ih =>
    by_cases h0 : a = v
    · simp [fix, h0]
    · rcases List.mem_cons.mp h with h1 | h1
      · exact absurd h1.symm h0
      · simp [fix, h0, ih h1]
theorem fix_new : ∀ (vs : List Int32) (v : Int32), fix (vs ++ [v]) v = fix vs v := by
  intro vs v
  induction vs with
  | nil => simp [fix]
  | cons a t ih =>
    by_cases h0 : a = v
    · simp [fix, h0]
    · simp [fix, h0, ih]
/-- what an object of points holds: days, values, for each the place of the first like value -/
def PH (o : Nat) (ds : List Nat) (vs : List Int32) (I : MI) : Prop := I o 4 = nI ds.length ∧ vs.length = ds.length ∧ ∀ k, k < ds.length → I (o + 2) k = nI (ds.getD k 0) ∧ I (o + 3) k = vs.getD k 0 ∧ I (o + 4) k = nI (fix vs (vs.getD k 0))
section
variable {G : GC} {d : Nat} {P : PT} {I : MI} {J : MJ}
theorem flike_loop {o m : Nat} {vs : List Int32} {v : Int32} (h0 : PtsAt o) (hm : m < 40) (hl : vs.length = m) (hv : ∀ k, k < m → I (o + 3) k = vs.getD k 0) (hw : I (o + 3) m = v) (hq : P (some (.int (nI (fix vs v)))) I J) : ∀ (r i : Nat) (x2 : Int32), i + r = m → x2 = nI i → (∀ j, j < i → vs.getD j 0 ≠ v) → Go G (fr G m_PO_findLike d P) 2 [some (.ref o), some (.int (nI m)), some (.int x2)] [] I J := by
  intro r
  induction r with
  | zero =>
    intro i x2 hi hx hno
    subst hx
    obtain rfl : i = m := by omega
    have hle : nI i ≤ nI i := nI_le (Nat.le_refl _) (by omega)
    refine w_PO_findLike_2 h0 (fun _ => ?_) (fun c => absurd hle c) (fun c => absurd hle c) (fun c => absurd hle c) (fun c => absurd hle c)
    rw [fix_no vs v (fun j hj => hno j (by omega))] at hq
    rw [hl] at hq; exact hq
  | succ r ih =>
    intro i x2 hi hx hno
    subst hx
    have hc : ¬ nI m ≤ nI i := nI_ge (by omega) (by omega)
    have e1 : (nI i).toNatClampNeg = i := nI_clamp (by omega)
    have e2 : (nI m).toNatClampNeg = m := nI_clamp (by omega)
    refine w_PO_findLike_2 h0 (fun c => absurd c hc) (fun _ => vp_in_nI (by omega) (by omega)) (fun _ => vp_in_nI (by omega) (by omega)) (fun _ c => ?_) (fun _ c => ?_)
    · rw [e1, e2, hv i (by omega), hw] at c
      exact ih (i + 1) _ (by omega) (nI_1 i) (fun j hj => by
        rcases Nat.lt_or_ge j i with h | h
        · exact hno j h
        · obtain rfl : j = i := by omega
          exact c)
    · rw [e1, e2, hv i (by omega), hw] at c
      have hix : fix vs v = i := fix_at vs v i (by omega) c hno
      rw [hix] at hq; exact hq
theorem sp_findLike {o m : Nat} {vs : List Int32} {v : Int32} (h0 : PtsAt o) (hm : m < 40) (hl : vs.length = m) (hv : ∀ k, k < m → I (o + 3) k = vs.getD k 0) (hw : I (o + 3) m = v) (hq : P (some (.int (nI (fix vs v)))) I J) : Ct G d m_PO_findLike [.ref o, .int (nI m)] P I J := by
  refine Ct.ofGo [some (.ref o), some (.int (nI m)), none] (by decide +kernel) rfl (Nat.le_of_ble_eq_true rfl) (w_PO_findLike_0 h0 ?_)
  exact flike_loop h0 hm hl hv hw hq m 0 0 (by omega) nI_0.symm (fun j hj => by omega)
theorem getD_app1 {α : Type} {l : List α} {x z : α} {k : Nat} (h : k < l.length) : (l ++ [x]).getD k z = l.getD k z := by simp [List.getD_eq_getElem?_getD, List.getElem?_append_left h]
theorem getD_app2 {α : Type} {l : List α} {x z : α} : (l ++ [x]).getD l.length z = x := by simp [List.getD_eq_getElem?_getD]
theorem getD_mem {l : List Int32} {k : Nat} (h : k < l.length) : l.getD k 0 ∈ l := by simp [List.getD_eq_getElem?_getD, h]
/-- one more point at the end -/
theorem PH.push {o : Nat} {ds : List Nat} {vs : List Int32} {I I' : MI} {n : Nat} {v : Int32} (h : PH o ds vs I) (h4 : I' o 4 = nI (ds.length + 1)) (ha : ∀ k, k < ds.length → I' (o + 2) k = I (o + 2) k ∧ I' (o + 3) k = I (o + 3) k ∧ I' (o + 4) k = I (o + 4) k) (h2 : I' (o + 2) ds.length = nI n) (h3 : I' (o + 3) ds.length = v) (hf : I' (o + 4) ds.length = nI (fix vs v)) : PH o (ds ++ [n]) (vs ++ [v]) I' := by
  obtain ⟨e1, e2, e3⟩ := h
  refine ⟨by simpa using h4, by simp [e2], fun k hk => ?_⟩
  rcases Nat.lt_or_ge k ds.length with q | q
  · have hv : k < vs.length := by omega
    rw [(ha k q).1, (ha k q).2.1, (ha k q).2.2, getD_app1 q, getD_app1 hv, fix_app (getD_mem hv)]
    exact e3 k q
  · obtain rfl : k = ds.length := by simp at hk; omega
    rw [h2, h3, hf, getD_app2, ← e2, getD_app2, fix_new]
    exact ⟨rfl, rfl, rfl⟩
theorem gather_loop {o : Nat} {f : Nat → Int32} {I0 : MI} (h0 : PtsAt o) (hq : ∀ I', Fr [o, o + 2, o + 3, o + 4] I0 I' → PH o (dys f 40) ((dys f 40).map f) I' → P none I' J) : ∀ (r i : Nat) (x1 : Int32) (I : MI), i + r = 40 → x1 = nI i → Fr [o, o + 2, o + 3, o + 4] I0 I → I (o + 1) = f → PH o (dys f i) ((dys f i).map f) I → Go G (fr G m_PO_gather (d + 1) P) 7 [some (.ref o), some (.int x1)] [] I J := by
  intro r
  induction r with
  | zero =>
    intro i x1 I hi hx hF hf hP
    subst hx
    obtain rfl : i = 40 := by omega
    have hle : (40 : Int32) ≤ nI 40 := by decide
    exact w_PO_gather_7 h0 (fun _ => hq I hF hP) (fun c => absurd hle c) (fun c => absurd hle c) (fun c => absurd hle c) (fun c => absurd hle c)
  | succ r ih =>
    intro i x1 I hi hx hF hf hP
    subst hx
    have hc : ¬ (40 : Int32) ≤ nI i := nI_ge (a := i) (b := 40) (by omega) (by omega)
    have e1 : (nI i).toNatClampNeg = i := nI_clamp (by omega)
    have hlen := dys_len f i
    have hs := hP.1
    have hin : vp_in (I o 4) 40 := by rw [hs]; exact vp_in_nI (by omega) (by omega)
    have es : (I o 4).toNatClampNeg = (dys f i).length := by rw [hs]; exact nI_clamp (by omega)
    refine w_PO_gather_7 h0 (fun c => absurd c hc) (fun _ => vp_in_nI (by omega) (by omega)) (fun _ c => ?_) (fun _ _ => hin) (fun _ c => ?_)
    · rw [e1, hf] at c
      refine w_PO_gather_77 h0 (ih (i + 1) _ I (by omega) (nI_1 i) hF hf ?_)
      rw [dys_gap c]; exact hP
    · rw [e1, es, hf]
      rw [e1, hf] at c
      rw [hs]
      refine sp_findLike h0 (vs := (dys f i).map f) (v := f i) (by omega) (by simp) (fun k hk => ?_) (by simp [u2]) ?_
      · rw [u2_k (by omega), u2_o (by omega)]
        exact (hP.2.2 k hk).2.1
      · show Go G (fr G m_PO_gather (d + 1) P) 66 [some (.ref o), some (.int (nI i))] [.int (nI (fix ((dys f i).map f) (f i))), .int (nI (dys f i).length), .ref (o + 4)] _ J
        refine w_PO_gather_66 h0 h0.2.2.2.2 (vp_in_nI (by omega) (by omega)) (w_PO_gather_77 h0 ?_)
        rw [nI_clamp (show (dys f i).length < 2 ^ 31 by omega)]
        refine ih (i + 1) _ _ (by omega) (nI_1 i) ?_ ?_ ?_
        · intro a ha
          simp only [List.mem_cons, List.not_mem_nil, or_false, not_or] at ha
          rw [u2_o ha.1, u2_o ha.2.2.2, u2_o ha.2.2.1, u2_o ha.2.1]
          exact hF a (by simp [ha])
        · rw [u2_o (by omega), u2_o (by omega), u2_o (by omega), u2_o (by omega)]
          exact hf
        · rw [dys_day c, List.map_append]
          refine hP.push ?_ (fun k hk => ⟨?_, ?_, ?_⟩) ?_ ?_ ?_
          · rw [u2_s, u2_o (by omega), u2_o (by omega), u2_o (by omega), hs, nI_1]
          · rw [u2_o (by omega), u2_o (by omega), u2_o (by omega), u2_k (by omega)]
          · rw [u2_o (by omega), u2_o (by omega), u2_k (by omega), u2_o (by omega)]
          · rw [u2_o (by omega), u2_k (by omega), u2_o (by omega), u2_o (by omega)]
          · rw [u2_o (by omega), u2_o (by omega), u2_o (by omega), u2_s]
          · rw [u2_o (by omega), u2_o (by omega), u2_s]
          · rw [u2_o (by omega), u2_s]
theorem sp_gather {o : Nat} (h0 : PtsAt o) (hq : ∀ I', Fr [o, o + 2, o + 3, o + 4] I I' → PH o (dys (I (o + 1)) 40) ((dys (I (o + 1)) 40).map (I (o + 1))) I' → P none I' J) : Ct G (d + 1) m_PO_gather [.ref o] P I J := by
  refine Ct.ofGo [some (.ref o), none] (by decide +kernel) rfl (Nat.le_of_ble_eq_true rfl) (w_PO_gather_0 h0 ?_)
  refine gather_loop h0 (f := I (o + 1)) (I0 := I) hq 40 0 0 _ (by omega) nI_0.symm ?_ ?_ ?_
  · intro a ha
    simp only [List.mem_cons, List.not_mem_nil, or_false, not_or] at ha
    rw [u2_o ha.1]
  · rw [u2_o (by omega)]
  · exact ⟨by rw [u2_s, dys_0]; exact nI_0.symm, by simp, fun k hk => by simp [dys_0] at hk⟩
/-- the value that row r has on a day, out of the first n told -/
def vw (ar ad av : Nat → Int32) (r dy : Int32) (n : Nat) : Int32 := match n with
  | 0 => -9999
  | n + 1 => if ar n = r ∧ ad n = dy then av n else vw ar ad av r dy n
def ldM (I : MI) (o : Nat) (r : Int32) (x : Nat) : MI := fun a => if a = o + 1 then (fun k => if k < 40 then vw (I 2) (I 3) (I 4) r (nI k) x else I (o + 1) k) else I a
theorem ldM_o {o : Nat} {r : Int32} {x a : Nat} (h : a ≠ o + 1) : ldM I o r x a = I a := by simp [ldM, h]
theorem load_loop {o : Nat} {r : Int32} {n : Nat} (h0 : PtsAt o) (hn : n ≤ 200) (hd : ∀ k, k < n → ∃ j, j < 40 ∧ I 3 k = nI j) (hq : ∀ I', Fr [o, o + 1, o + 2, o + 3, o + 4] I I' → (∀ k, k < 40 → I' (o + 1) k = vw (I 2) (I 3) (I 4) r (nI k) n) → PH o (dys (I' (o + 1)) 40) ((dys (I' (o + 1)) 40).map (I' (o + 1))) I' → P none I' J) : ∀ (m i : Nat) (x4 : Int32), i + m = n → x4 = nI i → Go G (fr G m_LE_load (d + 2) P) 13 [some (.ref 1), some (.ref o), some (.int r), some (.int (nI n)), some (.int x4)] [] (ldM I o r i) J := by
  have hr := pts_rng h0
  intro m
  induction m with
  | zero =>
    intro i x4 hi hx
    subst hx
    obtain rfl : i = n := by omega
    have hle : nI i ≤ nI i := nI_le (Nat.le_refl _) (by omega)
    refine w_LE_load_13 h0 (fun _ => sp_gather h0 (fun I' hF hP => ?_)) (fun c => absurd hle c) (fun c => absurd hle c) (fun c => absurd hle c) (fun c => absurd hle c)
    refine w_LE_load_59 (hq I' ?_ ?_ ?_)
    · intro a ha
      simp only [List.mem_cons, List.not_mem_nil, or_false, not_or] at ha
      rw [hF a (by simp [ha]), ldM_o ha.2.1]
    · intro k hk
      rw [hF (o + 1) (by simp)]
      simp [ldM, hk]
    · rw [hF (o + 1) (by simp)]
      exact hP
  | succ m ih =>
    intro i x4 hi hx
    subst hx
    have hc : ¬ nI n ≤ nI i := nI_ge (by omega) (by omega)
    have e1 : (nI i).toNatClampNeg = i := nI_clamp (by omega)
    obtain ⟨j, hj, ej⟩ := hd i (by omega)
    have q2 : ldM I o r i 2 = I 2 := ldM_o (by omega)
    have q3 : ldM I o r i 3 = I 3 := ldM_o (by omega)
    have q4 : ldM I o r i 4 = I 4 := ldM_o (by omega)
    refine w_LE_load_13 h0 (fun c => absurd c hc) (fun _ => vp_in_nI (by omega) (by omega)) (fun _ c => ?_) (fun _ _ => ?_) (fun _ c => ?_)
    · rw [e1, q2] at c
      refine w_LE_load_49 h0 ?_
      have he : ldM I o r i = ldM I o r (i + 1) := by
        funext a
        by_cases ha : a = o + 1
        · subst ha; funext k; simp [ldM, vw, c]
        · rw [ldM_o ha, ldM_o ha]
      rw [he]
      exact ih (i + 1) _ (by omega) (nI_1 i)
    · rw [e1, q3, ej]; exact vp_in_nI (by omega) (by omega)
    · rw [e1, q2] at c
      refine w_LE_load_49 h0 ?_
      rw [e1, q3, q4, ej, nI_clamp (show j < 2 ^ 31 by omega)]
      have he : u2 (ldM I o r i) (o + 1) j (I 4 i) = ldM I o r (i + 1) := by
        funext a
        by_cases ha : a = o + 1
        · subst ha; funext k
          rw [u2_at]
          by_cases hk : k = j
          · subst hk
            simp [ldM, vw, c, hj, ej]
          · by_cases h40 : k < 40
            · have hne : ¬ nI j = nI k := by rw [nI_eq (by omega) (by omega)]; omega
              simp [ldM, vw, hk, h40, ej, hne]
            · simp [ldM, hk, h40]
        · rw [u2_o ha, ldM_o ha, ldM_o ha]
      rw [he]
      exact ih (i + 1) _ (by omega) (nI_1 i)
theorem sp_load {o : Nat} {r : Int32} {n : Nat} (h0 : PtsAt o) (hn : n ≤ 200) (hd : ∀ k, k < n → ∃ j, j < 40 ∧ I 3 k = nI j) (hq : ∀ I', Fr [o, o + 1, o + 2, o + 3, o + 4] I I' → (∀ k, k < 40 → I' (o + 1) k = vw (I 2) (I 3) (I 4) r (nI k) n) → PH o (dys (I' (o + 1)) 40) ((dys (I' (o + 1)) 40).map (I' (o + 1))) I' → P none I' J) : Ct G (d + 2) m_LE_load [.ref 1, .ref o, .int r, .int (nI n)] P I J := by
  have hr := pts_rng h0
  refine Ct.ofGo [some (.ref 1), some (.ref o), some (.int r), some (.int (nI n)), none] (by decide +kernel) rfl (Nat.le_of_ble_eq_true rfl) (w_LE_load_0 h0 (sp_fillI h0.2.1 (by decide) (w_LE_load_10 h0 ?_)))
  have h := load_loop (G := G) (d := d) (P := P) (I := I) (J := J) (r := r) h0 hn hd hq n 0 0 (by omega) nI_0.symm
  have he : fl I (o + 1) 40 (-9999) = ldM I o r 0 := by
    funext a
    by_cases ha : a = o + 1
    · subst ha; funext k; simp [fl, ldM, vw]
    · rw [fl_o ha, ldM_o ha]
  rw [he]
  exact h
theorem ffrom_loop {o : Nat} {ds : List Nat} {vs : List Int32} {t : Int32} (h0 : PtsAt o) (hP : PH o ds vs I) (h40 : ds.length ≤ 40) (hq : ∀ i, i ≤ ds.length → (∀ j, j < i → nI (ds.getD j 0) < t) → (i < ds.length → t ≤ nI (ds.getD i 0)) → P (some (.int (nI i))) I J) : ∀ (m i : Nat) (x2 : Int32), i + m = ds.length → x2 = nI i → (∀ j, j < i → nI (ds.getD j 0) < t) → Go G (fr G m_PO_firstFrom d P) 2 [some (.ref o), some (.int t), some (.int x2)] [] I J := by
  intro m
  induction m with
  | zero =>
    intro i x2 hi hx hb
    subst hx
    have hle : I o 4 ≤ nI i := by rw [hP.1]; exact nI_le (by omega) (by omega)
    exact w_PO_firstFrom_2 h0 (fun _ => w_PO_firstFrom_26 (hq i (by omega) hb (fun h => by omega))) (fun c => absurd hle c) (fun c => absurd hle c) (fun c => absurd hle c)
  | succ m ih =>
    intro i x2 hi hx hb
    subst hx
    have hc : ¬ I o 4 ≤ nI i := by rw [hP.1]; exact nI_ge (by omega) (by omega)
    have e1 : (nI i).toNatClampNeg = i := nI_clamp (by omega)
    refine w_PO_firstFrom_2 h0 (fun c => absurd c hc) (fun _ => vp_in_nI (by omega) (by omega)) (fun _ c => w_PO_firstFrom_26 (hq i (by omega) hb (fun _ => ?_))) (fun _ c => ih (i + 1) _ (by omega) (nI_1 i) (fun j hj => ?_))
    · rw [e1, (hP.2.2 i (by omega)).1] at c; exact c
    · rcases Nat.lt_or_ge j i with q | q
      · exact hb j q
      · obtain rfl : j = i := by omega
        rw [e1, (hP.2.2 j (by omega)).1] at c
        exact Int32.not_le.mp c
theorem sp_firstFrom {o : Nat} {ds : List Nat} {vs : List Int32} {t : Int32} (h0 : PtsAt o) (hP : PH o ds vs I) (h40 : ds.length ≤ 40) (hq : ∀ i, i ≤ ds.length → (∀ j, j < i → nI (ds.getD j 0) < t) → (i < ds.length → t ≤ nI (ds.getD i 0)) → P (some (.int (nI i))) I J) : Ct G d m_PO_firstFrom [.ref o, .int t] P I J := by
  refine Ct.ofGo [some (.ref o), some (.int t), none] (by decide +kernel) rfl (Nat.le_of_ble_eq_true rfl) (w_PO_firstFrom_0 h0 ?_)
  exact ffrom_loop h0 hP h40 hq ds.length 0 0 (by omega) nI_0.symm (fun j hj => by omega)
end
