/-! ===== near: the class ===== -/
theorem cP_at {k : Nat} {L : List Pt} {ls a m : Nat} (h : ls ≤ m + 1) : cP k L ls a (a + m) = some (nK k (seg L a (m + 1)) * (5342931457063200 / denK k (seg L a (m + 1)))) := by
  unfold cP
  rw [show a + m - a + 1 = m + 1 by omega, if_pos h]
theorem cP_no {k : Nat} {L : List Pt} {ls a m : Nat} (h : ¬ ls ≤ m + 1) : cP k L ls a (a + m) = none := by
  unfold cP
  rw [show a + m - a + 1 = m + 1 by omega, if_neg h]
section
variable {G : GC} {d : Nat} {P : PT} {I : MI} {J : MJ}
theorem hdE_of {o : Option Nat} {j : Nat} {J J' : MJ} (h : hdE o j J) (h6 : J' 46 j = J 46 j) (h7 : J' 47 j = J 47 j) : hdE o j J' := by
  cases o with
  | none => show J' 46 j = -1; rw [h6]; exact h
  | some x => exact ⟨by rw [h6]; exact h.1, by rw [h7]; exact h.2⟩
theorem mh_loop {k : Nat} (hk : k < 4) {L : List Pt} {o ls : Nat} {I0 : MI} {J0 : MJ} (hok : okP L) (h1 : PtsAt o) (hP : PF o L I0) (h35 : J0 35 1 = 0) (h38 : J0 38 1 = 20) (hls : ls ≤ 100) (hq : ∀ I' J', FH I0 J0 I' J' → (∀ j, j < L.length → hdE (cP k L ls 0 j) j J') → P none I' J') : ∀ (r j : Nat) (I : MI) (J : MJ), j + r = L.length → FH I0 J0 I J → MS k L 0 j I J → (∀ i, i < j → hdE (cP k L ls 0 i) i J) → Go G (fr G m_CU_measureHeads (d + 3) P) 7 [some (.ref 33), some (.ref o), some (.ref (mcl k)), some (.int (nI ls)), some (.int (nI (0 + j))), none, none, none, none] [] I J := by
  have hl := hok.1
  intro r
  induction r with
  | zero =>
    intro j I J hj hF hM hH
    have hP' := hP.fh hF h1
    have hle : I o 4 ≤ nI (0 + j) := by rw [hP'.1.1]; exact nI_le (by omega) (by omega)
    refine w_CU_measureHeads_7 h1 (mes_lt hk) (fun _ => hq I J hF ?_) (fun c => absurd hle c)
    rw [show L.length = j by omega]; exact hH
  | succ r ih =>
    intro j I J hj hF hM hH
    have hP' := hP.fh hF h1
    have hlt : ¬ I o 4 ≤ nI (0 + j) := by rw [hP'.1.1]; exact nI_ge (by omega) (by omega)
    refine w_CU_measureHeads_7 h1 (mes_lt hk) (fun c => absurd c hlt) (fun _ => ms_extend hk hok h1 hP' (by omega) hM (fun I' J' g1 g2 => w_CU_measureHeads_23 h1 (mes_lt hk) ?_))
    have hF' := hF.tr g1.h
    have hseg : 0 + (j + 1) ≤ L.length := by omega
    have hlen := seg_len hseg
    have hnb := nK_b (k := k) (seg_okV (a := 0) (m := j + 1) hok) (by omega)
    have hdb := denK_b (k := k) (l := seg L 0 (j + 1)) (by omega) (by omega)
    have hsz := g2.size hk
    refine ms_above hk hok (by rw [hF'.2.2.1]; exact h35) (by rw [hF'.2.2.2]; exact h38) h1 hseg g2 (w_CU_measureHeads_30 h1 (mes_lt hk) (ms_below hk hseg g2 ?_))
    rw [← nK_eq]
    have hcmp : (I' (mcl k) 0 < nI ls) ↔ j + 1 < ls := by rw [hsz]; exact nI_ltI (by omega) (by omega)
    have hy : ¬ nI (denK k (seg L 0 (j + 1))) ≤ 0 := nI_nle (by omega) (by omega)
    have ej : (nI (0 + j)).toNatClampNeg = j := by rw [Nat.zero_add]; exact nI_clamp (by omega)
    have hnx : ∀ w r' : Int64, hdE (cP k L ls 0 j) j (u2 (u2 J' 46 j w) 47 j r') → Go G (fr G m_CU_measureHeads (d + 3) P) 7 [some (.ref 33), some (.ref o), some (.ref (mcl k)), some (.int (nI ls)), some (.int (nI (0 + j) + 1)), none, none, none, none] [] I' (u2 (u2 J' 46 j w) 47 j r') := fun w r' he => by
      rw [nI_1]
      refine ih (j + 1) I' _ (by omega) (hF'.tr ⟨fun _ _ => rfl, fun a _ h1 h2 => by rw [u2_o h2, u2_o h1], by rw [u2_o (by decide), u2_o (by decide)], by rw [u2_o (by decide), u2_o (by decide)]⟩) (g2.of hk (fun _ _ _ => rfl) (fun c h1 h2 => by rw [u2_o (by omega), u2_o (by omega)])) (fun i hi => ?_)
      by_cases q : i = j
      · rw [q]; exact he
      · refine hdE_of (hH i (by omega)) ?_ ?_
        · rw [u2_o (by decide), u2_k q, (g1.1 46 (by omega)).2]
        · rw [u2_k q, u2_o (by decide), (g1.1 47 (by omega)).2]
    refine w_CU_measureHeads_37 h1 (mes_lt hk) (fun c => w_CU_measureHeads_56 h1 (mes_lt hk) ?_) (fun _ c => absurd c hy) (fun c _ => ?_)
    · have hno := cP_no (k := k) (L := L) (a := 0) (ls := ls) (m := j) (by have := hcmp.mp c; omega)
      rw [Nat.zero_add] at hno
      refine w_CU_measureHeads_57 h1 (mes_lt hk) (fun _ => ?_) (fun c => absurd rfl c) (fun c => absurd rfl c)
      refine w_CU_measureHeads_82 h1 (mes_lt hk) (by rw [Nat.zero_add]; exact vp_in_nI (by omega) (by omega)) (fun _ => ?_) (fun c => absurd rfl c) (fun c => absurd rfl c)
      refine w_CU_measureHeads_112 h1 (mes_lt hk) (by rw [Nat.zero_add]; exact vp_in_nI (by omega) (by omega)) ?_
      rw [ej]
      refine hnx _ _ ?_
      rw [hno]
      show u2 (u2 J' 46 j (-1)) 47 j 0 46 j = -1
      rw [u2_o (by decide), u2_s]
    · have hyes := cP_at (k := k) (L := L) (a := 0) (ls := ls) (m := j) (by have : ¬ j + 1 < ls := fun h => c (hcmp.mpr h); omega)
      rw [Nat.zero_add] at hyes
      have hne : ¬ (1 : Int32) = 0 := by decide
      have hz : ¬ Int32.toInt64 (nI (denK k (seg L 0 (j + 1)))) = 0 := by rw [nI_lI (by omega)]; exact fun c => by have := (ln_0 (by omega)).mp c; omega
      have hsc := sc_div (n := nK k (seg L 0 (j + 1))) (b := denK k (seg L 0 (j + 1))) (by omega) (dvNN hdb.1 hdb.2)
      refine w_CU_measureHeads_57 h1 (mes_lt hk) (fun c => absurd c hne) (fun _ => hz) (fun _ => ?_)
      refine w_CU_measureHeads_82 h1 (mes_lt hk) (by rw [Nat.zero_add]; exact vp_in_nI (by omega) (by omega)) (fun c => absurd c hne) (fun _ => hz) (fun _ => ?_)
      refine w_CU_measureHeads_112 h1 (mes_lt hk) (by rw [Nat.zero_add]; exact vp_in_nI (by omega) (by omega)) ?_
      rw [ej, nI_lI (by omega), ln_rem (by omega) (by omega) (by omega), ln_div (by omega) (by omega) (by omega), c_NN, ln_div (by omega) (by omega) (by omega), lI_mul]
      refine hnx _ _ ?_
      rw [hyes]
      refine ⟨?_, ?_⟩
      · rw [u2_o (by decide), u2_s]; unfold vW; rw [hsc.1]
      · rw [u2_s, hsc.2]; rfl
theorem sp_heads {k : Nat} (hk : k < 4) {L : List Pt} {o ls : Nat} (hok : okP L) (h1 : PtsAt o) (hP : PF o L I) (h35 : J 35 1 = 0) (h38 : J 38 1 = 20) (hls : ls ≤ 100) (hq : ∀ I' J', FH I J I' J' → (∀ j, j < L.length → hdE (cP k L ls 0 j) j J') → P none I' J') : Ct G (d + 3) m_CU_measureHeads [.ref 33, .ref o, .ref (mcl k), .int (nI ls)] P I J := by
  refine Ct.ofGo [some (.ref 33), some (.ref o), some (.ref (mcl k)), some (.int (nI ls)), none, none, none, none, none] (by decide +kernel) rfl (Nat.le_of_ble_eq_true rfl) (w_CU_measureHeads_0 h1 (mes_lt hk) (ms_restart hk (L := L) (a := 0) (fun I' J' g1 g2 => w_CU_measureHeads_4 h1 (mes_lt hk) ?_)))
  exact mh_loop hk hok h1 hP h35 h38 hls hq L.length 0 I' J' (by omega) g1.h g2 (fun i hi => by omega)
theorem cm_loop {k : Nat} (hk : k < 4) {L : List Pt} {o ls K p B x f : Nat} {I0 : MI} {J0 : MJ} (hok : okP L) (h1 : PtsAt o) (hP : PF o L I0) (h35 : J0 35 1 = 0) (h38 : J0 38 1 = 20) (hls : ls ≤ 100) (hK : 2 ≤ K) (hB : BD B p J0) (hp : p ≤ 1000) (hBb : B ≤ 40 * 5342931457063200000000) (hS : CS (cP k L ls) L.length K I0 J0) (hf1 : 1 ≤ f) (hf : f < L.length) (hx : J0 46 (f - 1) = lI ((vW x : Nat) : Int) ∧ J0 47 (f - 1) = lI ((x % 5342931457063200 : Nat) : Int)) (hxw : vW x ≤ 40000000) (hq : ∀ I' J', FM I0 J0 I' J' → P (some (.int (nI (gs (mdN (cP k L ls) L.length B p x f) (L.length - 1))))) I' J') : ∀ (r m : Nat) (I : MI) (J : MJ), f + m + r = L.length - 1 → FM I0 J0 I J → MS k L f m I J → Go G (fr G m_CU_countMiddles (d + 3) P) 10 [some (.ref 33), some (.ref o), some (.ref (mcl k)), some (.int (nI f)), some (.int (nI ls)), some (.int (nI (gs (mdN (cP k L ls) L.length B p x f) (f + m)))), some (.int (nI (f + m))), none, none, none, none, none] [] I J := by
  have hl := hok.1
  have hc := cP_ok (k := k) (ls := ls) hok
  have eL : nI L.length - 1 = nI (L.length - 1) := by rw [show L.length = L.length - 1 + 1 by omega]; exact nI_pred _
  intro r
  induction r with
  | zero =>
    intro m I J hm hF hM
    have hP' := hP.of hF h1
    have hle : I o 4 - 1 ≤ nI (f + m) := by rw [hP'.1.1, eL]; exact nI_le (by omega) (by omega)
    refine w_CU_countMiddles_10 h1 (mes_lt hk) (fun _ => ?_) (fun c => absurd hle c)
    rw [show f + m = L.length - 1 by omega]
    exact hq I J hF
  | succ r ih =>
    intro m I J hm hF hM
    have hP' := hP.of hF h1
    have hlt : ¬ I o 4 - 1 ≤ nI (f + m) := by rw [hP'.1.1, eL]; exact nI_ge (by omega) (by omega)
    refine w_CU_countMiddles_10 h1 (mes_lt hk) (fun c => absurd c hlt) (fun _ => ms_extend hk hok h1 hP' (by omega) hM (fun I' J' g1 g2 => w_CU_countMiddles_28 h1 (mes_lt hk) ?_))
    have hF' := hF.tr g1
    have hseg : f + (m + 1) ≤ L.length := by omega
    have hlen := seg_len hseg
    have hnb := nK_b (k := k) (seg_okV (a := f) (m := m + 1) hok) (by omega)
    have hdb := denK_b (k := k) (l := seg L f (m + 1)) (by omega) (by omega)
    have hsz := g2.size hk
    have hcmp : (I' (mcl k) 0 < nI ls) ↔ m + 1 < ls := by rw [hsz]; exact nI_ltI (by omega) (by omega)
    have hy : ¬ nI (denK k (seg L f (m + 1))) ≤ 0 := nI_nle (by omega) (by omega)
    have hnx := ih (m + 1) I' J' (by omega) hF' g2
    rw [show f + (m + 1) = (f + m) + 1 by omega, gs_s] at hnx
    refine ms_below hk hseg g2 (w_CU_countMiddles_33 h1 (mes_lt hk) (fun c => w_CU_countMiddles_113 h1 (mes_lt hk) ?_) (fun _ c => absurd c hy) (fun c _ => ?_))
    · have e0 : mdN (cP k L ls) L.length B p x f (f + m) = 0 := by
        unfold mdN
        rw [if_neg (by omega), cP_no (by have := hcmp.mp c; omega)]
      rw [e0, Nat.add_zero] at hnx
      rw [nI_1]; exact hnx
    · have hge : ls ≤ m + 1 := by have : ¬ m + 1 < ls := fun h => c (hcmp.mpr h); omega
      have hyes := cP_at (k := k) (L := L) (a := f) (ls := ls) (m := m) hge
      have hsc := sc_div (n := nK k (seg L f (m + 1))) (b := denK k (seg L f (m + 1))) (by omega) (dvNN hdb.1 hdb.2)
      generalize hyv : nK k (seg L f (m + 1)) * (5342931457063200 / denK k (seg L f (m + 1))) = y at hyes hsc
      have hyw : vW y ≤ 40000000 := (c_bd hc hl (by omega) (by omega) hyes).2
      have e0 : mdN (cP k L ls) L.length B p x f (f + m) = tlN (cP k L ls) L.length B p (x + y) (f + m + 1) := by
        unfold mdN
        rw [if_neg (by omega), hyes]
      have hz : ¬ Int32.toInt64 (nI (denK k (seg L f (m + 1)))) = 0 := by rw [nI_lI (by omega)]; exact fun c => by have := (ln_0 (by omega)).mp c; omega
      have ef : nI f - 1 = nI (f - 1) := by rw [show f = f - 1 + 1 by omega]; exact nI_pred _
      have ef2 : (nI f - 1).toNatClampNeg = f - 1 := by rw [ef]; exact nI_clamp (by omega)
      refine ms_above hk hok (by rw [hF'.2.1]; exact h35) (by rw [hF'.2.2]; exact h38) h1 hseg g2 (w_CU_countMiddles_56 h1 (mes_lt hk) (by rw [ef]; exact vp_in_nI (by omega) (by omega)) hz ?_)
      rw [← nK_eq, ef2, nI_lI (by omega), ln_rem (by omega) (by omega) (by omega), ln_div (by omega) (by omega) (by omega), c_NN, ln_div (by omega) (by omega) (by omega), lI_mul]
      rw [(hF'.1 46 (by omega)).2, (hF'.1 47 (by omega)).2, hx.1, hx.2, lI_add, lI_add, nI_1]
      have hN : 0 < 5342931457063200 := by decide
      have d1 := Nat.div_add_mod x 5342931457063200
      have d2 := Nat.div_add_mod y 5342931457063200
      have m1 := Nat.mod_lt x hN
      have m2 := Nat.mod_lt y hN
      have eA : ((vW x : Nat) : Int) + ((nK k (seg L f (m + 1)) / denK k (seg L f (m + 1)) : Nat) : Int) = ((vW x + vW y : Nat) : Int) := by
        rw [← hsc.1]; rfl
      have eB : ((x % 5342931457063200 : Nat) : Int) + ((nK k (seg L f (m + 1)) % denK k (seg L f (m + 1)) : Nat) : Int) * ((5342931457063200 / denK k (seg L f (m + 1)) : Nat) : Int) = ((x % 5342931457063200 + y % 5342931457063200 : Nat) : Int) := by
        rw [hsc.2]; rfl
      rw [eA, eB]
      have hBD : BD B p J' := ⟨by rw [(hF'.1 33 (by omega)).2]; exact hB.1, by rw [(hF'.1 33 (by omega)).2]; exact hB.2⟩
      refine sp_countTail (hv := x + y) (B := B) (p := p) hc hl hK hBD hp hBb (hS.fh hF'.h) ?_ (by omega) (by omega) (by omega) (w_CU_countMiddles_110 h1 (mes_lt hk) (w_CU_countMiddles_113 h1 (mes_lt hk) ?_))
      · show (x / 5342931457063200 + y / 5342931457063200) * 5342931457063200 + (x % 5342931457063200 + y % 5342931457063200) = x + y
        rw [Nat.add_mul]; omega
      · rw [nI_add, nI_1, ← e0]; exact hnx
theorem gs_mid0 {c : CC} {n B p x f : Nat} : gs (mdN c n B p x f) f = 0 := gs_z f (fun t ht => by unfold mdN; rw [if_pos ht])
theorem sp_middles {k : Nat} (hk : k < 4) {L : List Pt} {o ls K p B x f : Nat} (hok : okP L) (h1 : PtsAt o) (hP : PF o L I) (h35 : J 35 1 = 0) (h38 : J 38 1 = 20) (hls : ls ≤ 100) (hK : 2 ≤ K) (hB : BD B p J) (hp : p ≤ 1000) (hBb : B ≤ 40 * 5342931457063200000000) (hS : CS (cP k L ls) L.length K I J) (hf1 : 1 ≤ f) (hf : f < L.length) (hx : J 46 (f - 1) = lI ((vW x : Nat) : Int) ∧ J 47 (f - 1) = lI ((x % 5342931457063200 : Nat) : Int)) (hxw : vW x ≤ 40000000) (hq : ∀ I' J', FM I J I' J' → P (some (.int (nI (gs (mdN (cP k L ls) L.length B p x f) (L.length - 1))))) I' J') : Ct G (d + 3) m_CU_countMiddles [.ref 33, .ref o, .ref (mcl k), .int (nI f), .int (nI ls)] P I J := by
  refine Ct.ofGo [some (.ref 33), some (.ref o), some (.ref (mcl k)), some (.int (nI f)), some (.int (nI ls)), none, none, none, none, none, none, none] (by decide +kernel) rfl (Nat.le_of_ble_eq_true rfl) (w_CU_countMiddles_0 h1 (mes_lt hk) (ms_restart hk (L := L) (a := f) (fun I' J' g1 g2 => w_CU_countMiddles_7 h1 (mes_lt hk) ?_)))
  have h0 := cm_loop (G := G) (d := d) hk hok h1 hP h35 h38 hls hK hB hp hBb hS hf1 hf hx hxw hq (L.length - 1 - f) 0 I' J' (by omega) g1 g2
  have e0 : gs (mdN (cP k L ls) L.length B p x f) (f + 0) = 0 := gs_mid0
  rw [e0] at h0
  exact h0
theorem cw_loop {k : Nat} (hk : k < 4) {L : List Pt} {o ls K p B : Nat} {I0 : MI} {J0 : MJ} (hok : okP L) (h1 : PtsAt o) (hP : PF o L I0) (h35 : J0 35 1 = 0) (h38 : J0 38 1 = 20) (hls : ls ≤ 100) (hK : K = 2 ∨ K = 3) (hB : BD B p J0) (hp : p ≤ 1000) (hBb : B ≤ 40 * 5342931457063200000000) (hS : CS (cP k L ls) L.length K I0 J0) (hH : ∀ j, j < L.length → hdE (cP k L ls 0 j) j J0) (hq : ∀ I' J', FM I0 J0 I' J' → P (some (.int (nI (nearN (cP k L ls) L.length B p K)))) I' J') : ∀ (r f : Nat) (I : MI) (J : MJ), f + r = L.length → 1 ≤ f → FM I0 J0 I J → Go G (fr G m_CU_countWithin (d + 4) P) 30 [some (.ref 33), some (.ref o), none, some (.int (nI K)), some (.int (nI ls)), none, some (.ref (mcl k)), some (.int (nI (gs (nrT (cP k L ls) L.length B p K) f))), some (.int (nI f))] [] I J := by
  have hl := hok.1
  have hc := cP_ok (k := k) (ls := ls) hok
  intro r
  induction r with
  | zero =>
    intro f I J hf hf1 hF
    have hP' := hP.of hF h1
    have hle : I o 4 ≤ nI f := by rw [hP'.1.1]; exact nI_le (by omega) (by omega)
    refine w_CU_countWithin_30 h1 (mes_lt hk) (fun _ => ?_) (fun c => absurd hle c) (fun c => absurd hle c) (fun c => absurd hle c) (fun c => absurd hle c)
    rw [show f = L.length by omega]
    exact hq I J hF
  | succ r ih =>
    intro f I J hf hf1 hF
    have hP' := hP.of hF h1
    have hlt : ¬ I o 4 ≤ nI f := by rw [hP'.1.1]; exact nI_ge (by omega) (by omega)
    have ef : nI f - 1 = nI (f - 1) := by rw [show f = f - 1 + 1 by omega]; exact nI_pred _
    have ef2 : (nI f - 1).toNatClampNeg = f - 1 := by rw [ef]; exact nI_clamp (by omega)
    have hh := hH (f - 1) (by omega)
    have e46 : J 46 = J0 46 := (hF.1 46 (by omega)).2
    have e47 : J 47 = J0 47 := (hF.1 47 (by omega)).2
    have hgs := gs_s (nrT (cP k L ls) L.length B p K) f
    have hBD : BD B p J := ⟨by rw [(hF.1 33 (by omega)).2]; exact hB.1, by rw [(hF.1 33 (by omega)).2]; exact hB.2⟩
    cases hcx : cP k L ls 0 (f - 1) with
    | none =>
      rw [hcx] at hh
      have hm1 : J 46 (nI f - 1).toNatClampNeg = -1 := by rw [ef2, e46]; exact hh
      have e0 : nrT (cP k L ls) L.length B p K f = 0 := by unfold nrT; rw [if_neg (by omega), hcx]
      rw [e0, Nat.add_zero] at hgs
      have hnx := ih (f + 1) I J (by omega) (by omega) hF
      rw [hgs] at hnx
      refine w_CU_countWithin_30 h1 (mes_lt hk) (fun c => absurd c hlt) (fun _ => by rw [ef]; exact vp_in_nI (by omega) (by omega)) (fun _ c => absurd hm1 c) (fun _ c => absurd hm1 c) (fun _ _ => w_CU_countWithin_106 h1 (mes_lt hk) ?_)
      rw [nI_1]; exact hnx
    | some x =>
      rw [hcx] at hh
      have hxw : vW x ≤ 40000000 := (c_bd hc hl (by omega) (by omega) hcx).2
      have hm1 : ¬ J 46 (nI f - 1).toNatClampNeg = -1 := by
        rw [ef2, e46, hh.1, show (-1 : Int64) = lI (-1) from rfl, lI_inj (by omega) (by omega)]; omega
      refine w_CU_countWithin_30 h1 (mes_lt hk) (fun c => absurd c hlt) (fun _ => by rw [ef]; exact vp_in_nI (by omega) (by omega)) (fun _ _ c => ?_) (fun _ _ c => ?_) (fun _ c => absurd c hm1)
      · have hK3 : ¬ K = 2 := fun h => c (by rw [h]; rfl)
        have e0 : nrT (cP k L ls) L.length B p K f = gs (mdN (cP k L ls) L.length B p x f) (L.length - 1) := by unfold nrT; rw [if_neg (by omega), hcx]; exact if_neg hK3
        rw [e0] at hgs
        refine sp_middles hk hok h1 hP' (by rw [hF.2.1]; exact h35) (by rw [hF.2.2]; exact h38) hls (by omega) hBD hp hBb (hS.fh hF.h) hf1 (by omega) (x := x) ⟨by rw [e46]; exact hh.1, by rw [e47]; exact hh.2⟩ hxw (fun I' J' g => w_CU_countWithin_103 h1 (mes_lt hk) (w_CU_countWithin_106 h1 (mes_lt hk) ?_))
        rw [nI_add, nI_1, ← hgs]
        exact ih (f + 1) I' J' (by omega) (by omega) (hF.tr g)
      · have hK2 : K = 2 := by rcases hK with h | h; (· exact h); (· subst h; exact absurd c (by decide))
        have e0 : nrT (cP k L ls) L.length B p K f = tlN (cP k L ls) L.length B p x f := by unfold nrT; rw [if_neg (by omega), hcx]; exact if_pos hK2
        rw [e0] at hgs
        rw [ef2, e46, e47, hh.1, hh.2]
        have hN : 0 < 5342931457063200 := by decide
        have d1 := Nat.div_add_mod x 5342931457063200
        have m1 := Nat.mod_lt x hN
        refine sp_countTail (hv := x) (B := B) (p := p) hc hl (by omega) hBD hp hBb (hS.fh hF.h) (by rw [Nat.mul_comm] at d1; exact d1) (by omega) (by omega) (by omega) (w_CU_countWithin_89 h1 (mes_lt hk) (w_CU_countWithin_103 h1 (mes_lt hk) (w_CU_countWithin_106 h1 (mes_lt hk) ?_)))
        rw [nI_add, nI_1, ← hgs]
        exact ih (f + 1) I J (by omega) (by omega) hF
theorem isW23 {x : Int32} (h : ¬ f_LB_isWithin x 2 3 = 0) : ∃ K, (K = 2 ∨ K = 3) ∧ x = nI K := by
  obtain ⟨h1, h2⟩ := isW1.mp h
  rw [ti_le] at h1 h2
  have z1 : (2 : Int32).toInt = 2 := rfl
  have z2 : (3 : Int32).toInt = 3 := rfl
  refine ⟨x.toInt.toNat, by omega, ?_⟩
  rw [ti_eq, nI_ti (by omega)]; omega
def nearB (st : ST) (r k K p : Nat) : Int32 := match Dp (cR st r k) (nR st r) K 0 with
  | none => -3
  | some t => nI (nearN (cR st r k) (nR st r) t.1 p K)
def nearA (st : ST) (r kd K p : Int32) : Int32 :=
  if f_LB_isRow r = 0 ∨ f_LB_isKind kd = 0 ∨ f_LB_isWithin K 2 3 = 0 ∨ f_LB_isWithin p 0 1000 = 0 then -2 else nearB st r.toNatClampNeg kd.toNatClampNeg K.toNatClampNeg p.toNatClampNeg
theorem cl_near {st : ST} {r kd K p : Int32} (hR : RC st I J) (hS : okS st) (hq : ∀ I' J', KC I J I' J' → P (some (.int (nearA st r kd K p))) I' J') : Ct G (d + 6) m_LB_near [.ref 0, .int r, .int kd, .int K, .int p] P I J := by
  have hbad : (f_LB_isRow r = 0 ∨ f_LB_isKind kd = 0 ∨ f_LB_isWithin K 2 3 = 0 ∨ f_LB_isWithin p 0 1000 = 0) → Go G (fr G m_LB_near (d + 6) P) 35 [none, none, none, none, none] [] I J := fun hb => by
    have := hq I J KC.rf
    unfold nearA at this
    rw [if_pos hb] at this; exact w_LB_near_35 this
  refine Ct.ofGo [some (.ref 0), some (.int r), some (.int kd), some (.int K), some (.int p)] (by decide +kernel) rfl (Nat.le_of_ble_eq_true rfl) (w_LB_near_0 (fun c => hbad (Or.inl c)) (fun _ c => hbad (Or.inr (Or.inl c))) (fun _ _ c => hbad (Or.inr (Or.inr (Or.inl c)))) (fun c1 c2 c3 c4 => ?_) (fun _ _ _ c => hbad (Or.inr (Or.inr (Or.inr c)))))
  have hnb : ¬ (f_LB_isRow r = 0 ∨ f_LB_isKind kd = 0 ∨ f_LB_isWithin K 2 3 = 0 ∨ f_LB_isWithin p 0 1000 = 0) := by
    rintro (h | h | h | h)
    · exact c1 h
    · exact c2 h
    · exact c3 h
    · exact c4 h
  unfold nearA at hq
  rw [if_neg hnb] at hq
  obtain ⟨r, hr, rfl⟩ := isRow1 c1
  obtain ⟨k, hk, rfl⟩ := isKind1 c2
  obtain ⟨K, hK, rfl⟩ := isW23 c3
  obtain ⟨p, hp, rfl⟩ := isW_nI (m := 1000) (by omega) c4
  have er : (nI r).toNatClampNeg = r := nI_clamp (by omega)
  have ek : (nI k).toNatClampNeg = k := nI_clamp (by omega)
  rw [er, ek, nI_clamp (show K < 2 ^ 31 by omega), nI_clamp (show p < 2 ^ 31 by omega)] at hq
  unfold nearB at hq
  have hn := nR_le hS r
  have hok := pts_ok hS r
  have hL : (pts st r).length = nR st r := rfl
  obtain ⟨e1, l1, l2⟩ := lsr_ok hS hr
  refine cl_cutRow hR hS hr hk (by omega) (by omega) (fun I1 J1 g1 g2 _ => ?_)
  have hR1 := hR.keep g1.kc
  cases hd : Dp (cR st r k) (nR st r) K 0 with
  | none =>
    rw [hd] at hq
    exact w_LB_near_45 (fun c => absurd rfl c) (fun c => absurd rfl c) (fun _ => hq I1 J1 g1.kc)
  | some t =>
    rw [hd] at hq
    have hne : ¬ (1 : Int32) = 0 := by decide
    have h1 := pts_lt r hr
    have hc : okC (cR st r k) (nR st r) := cP_ok hok
    refine w_LB_near_45 (fun _ => vp_in_nI hr (by omega)) (fun _ => ?_) (fun c => absurd c hne)
    rw [er, hR1.2.2.2.1 r hr, e1]
    refine Ct.ofGo [some (.ref 33), some (.ref (7 + 5 * r)), some (.int (nI k)), some (.int (nI K)), some (.int (nI (lsr st r))), some (.int (nI p)), none, none, none] (by decide +kernel) rfl (Nat.le_of_ble_eq_true rfl) (w_CU_countWithin_0 h1 ?_)
    refine sp_setBound hc hn (by omega) hp g2 hd (fun J2 f1 f2 => w_CU_countWithin_7 h1 (vp_in_nI hk (by omega)) ?_)
    rw [ek]
    have k2 : KC I1 J1 I1 J2 := ⟨fun _ _ => rfl, rfl, by rw [f1 35 (by decide)], by rw [f1 38 (by decide)], fun a ha => f1 a (by omega)⟩
    have hR2 := hR1.keep k2
    have hS2 : CS (cR st r k) (nR st r) K I1 J2 := g2.of rfl rfl rfl (f1 42 (by decide)) (f1 43 (by decide))
    have hP2 := (hR2.2.2.1 r hr).2.pf
    refine sp_heads hk hok h1 hP2 hR2.2.2.2.2.2.2.2.1 hR2.2.2.2.2.2.2.2.2 (show lsr st r ≤ 100 by omega) (fun I3 J3 h3 hH => w_CU_countWithin_24 h1 (mes_lt hk) ?_)
    have hB3 : BD t.1 p J3 := ⟨by rw [h3.2.1 33 (by omega) (by omega) (by omega)]; exact f2.1, by rw [h3.2.1 33 (by omega) (by omega) (by omega)]; exact f2.2⟩
    have hBb : t.1 ≤ 40 * 5342931457063200000000 := by
      have := (Dp_ok hc K 0 t (Nat.zero_le _) hd).1
      have h2 : (nR st r - 0) * 5342931457063200000000 ≤ 40 * 5342931457063200000000 := Nat.mul_le_mul_right _ (by omega)
      exact Nat.le_trans this h2
    have hnpos : 1 ≤ nR st r := by
      have : (Dp (cR st r k) (nR st r) K 0).isSome = true := by rw [hd]; rfl
      have := plc_lt this (show 0 < K by omega)
      omega
    have h0 := cw_loop (G := G) (d := d + 1) (P := fun q I' J' => Go G (fr G m_LB_near (d + 6) P) 74 [none, none, none, none, none] (q.toList ++ []) I' J') hk hok h1 (hP2.fh h3 h1) (by rw [h3.2.2.1]; exact hR2.2.2.2.2.2.2.2.1) (by rw [h3.2.2.2]; exact hR2.2.2.2.2.2.2.2.2) (show lsr st r ≤ 100 by omega) hK hB3 hp hBb (hS2.fh h3) hH (fun I' J' g => w_LB_near_74 (hq I' J' (((g1.kc.tr k2).tr h3.kc).tr g.kc))) (nR st r - 1) 1 I3 J3 (by omega) (by omega) FM.rf
    exact h0
end
