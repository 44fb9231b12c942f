/-! ===== common cuts: the reference's costs ===== -/
theorem denK_odd {k : Nat} (hk : k = 1 ∨ k = 3) (l : List Pt) : denK k l = 1 := by
  unfold denK; rcases hk with h | h <;> subst h <;> rfl
def CB (c : CC) (J : MJ) : Prop := ∀ a b, a ≤ b → b < 40 → J 84 (40 * a + b) = eO (c a b)
section
variable {G : GC} {d : Nat} {P : PT} {I : MI} {J : MJ}
theorem rpf_loop {L : List Pt} {x : Nat} (hok : okP L) (hQ : QL L I) (hx : x ≤ 40) (hq : P (some (.int (nI (pf L x)))) I J) : ∀ (m i : Nat), i + m = L.length → (∀ j, j < i → dN L j < x) → Go G (fr G m_RM_pointFrom d P) 2 [some (.ref 67), some (.int (nI x)), some (.int (nI i))] [] I J := by
  have hl := hok.1
  intro m
  induction m with
  | zero =>
    intro i hi hb
    have hle : I 67 7 ≤ nI i := by rw [hQ.1]; exact nI_le (by omega) (by omega)
    refine w_RM_pointFrom_2 (fun _ => w_RM_pointFrom_26 ?_) (fun c => absurd hle c) (fun c => absurd hle c) (fun c => absurd hle c)
    rw [← pf_uniq (show i ≤ L.length by omega) hb (fun h => by omega)]; exact hq
  | succ m ih =>
    intro i hi hb
    have hc : ¬ I 67 7 ≤ nI i := by rw [hQ.1]; exact nI_ge (by omega) (by omega)
    have e1 : (nI i).toNatClampNeg = i := nI_clamp (by omega)
    have hd : dN L i < 40 := dN_lt hok (by omega)
    have ed : I 74 i = nI (dN L i) := (hQ.2 i (by omega)).2
    refine w_RM_pointFrom_2 (fun c => absurd c hc) (fun _ => vp_in_nI (by omega) (by omega)) (fun _ c => w_RM_pointFrom_26 ?_) (fun _ c => ?_)
    · rw [e1, ed, nI_leI (by omega) (by omega)] at c
      rw [← pf_uniq (show i ≤ L.length by omega) hb (fun h => c)]; exact hq
    · rw [e1, ed, nI_leI (by omega) (by omega)] at c
      rw [nI_1]
      exact ih (i + 1) (by omega) (fun j hj => by
        by_cases q : j = i
        · rw [q]; omega
        · exact hb j (by omega))
theorem md_pointFrom {L : List Pt} {x : Nat} (hok : okP L) (hQ : QL L I) (hx : x ≤ 40) (hq : P (some (.int (nI (pf L x)))) I J) : Ct G d m_RM_pointFrom [.ref 67, .int (nI x)] P I J :=
  Ct.ofGo [some (.ref 67), some (.int (nI x)), none] (by decide +kernel) rfl (Nat.le_of_ble_eq_true rfl) (w_RM_pointFrom_0 (rpf_loop hok hQ hx hq L.length 0 (by omega) (fun j hj => by omega)))
theorem cc_zero {x1 x2 : Int32} (hq : Go G (fr G m_RM_commonCosts (d + 4) P) 24 [some (.ref 67), some (.int x1), some (.int x2), some (.int 0), none, none, none, none, none] [] I (fl J 84 1600 0)) : ∀ (m i : Nat), i + m = 1600 → Go G (fr G m_RM_commonCosts (d + 4) P) 2 [some (.ref 67), some (.int x1), some (.int x2), some (.int (nI i)), none, none, none, none, none] [] I (fl J 84 i 0) := by
  intro m
  induction m with
  | zero =>
    intro i hi
    obtain rfl : i = 1600 := by omega
    have hle : (1600 : Int32) ≤ nI 1600 := by decide
    exact w_RM_commonCosts_2 (fun _ => hq) (fun c => absurd hle c) (fun c => absurd hle c)
  | succ m ih =>
    intro i hi
    have hc : ¬ (1600 : Int32) ≤ nI i := nI_ge (a := i) (b := 1600) (by omega) (by omega)
    refine w_RM_commonCosts_2 (fun c => absurd c hc) (fun _ => vp_in_nI (by omega) (by omega)) (fun _ => ?_)
    rw [nI_clamp (show i < 2 ^ 31 by omega), fl_step, nI_1]
    exact ih (i + 1) (by omega)
/-- the table in the midst of row r: new before (a, b), old from there on -/
def DX (f g : Nat → Nat → Option Nat) (a b : Nat) (J : MJ) : Prop := ∀ a' b', a' ≤ b' → b' < 40 → J 84 (40 * a' + b') = eO (if a' < a ∨ (a' = a ∧ b' < b) then g a' b' else f a' b')
theorem DX.nx {f g : Nat → Nat → Option Nat} {a : Nat} (h : DX f g a 40 J) : DX f g (a + 1) (a + 1) J := fun a' b' h1 h2 => by
  rw [h a' b' h1 h2]
  by_cases q : a' < a ∨ (a' = a ∧ b' < 40)
  · rw [if_pos q, if_pos (by omega)]
  · rw [if_neg q, if_neg (by omega)]
theorem DX.put {f g : Nat → Nat → Option Nat} {a b : Nat} (h : DX f g a b J) (ha : a ≤ b) (hb : b < 40) : DX f g a (b + 1) (u2 J 84 (40 * a + b) (eO (g a b))) := fun a' b' h1 h2 => by
  by_cases q : a' = a ∧ b' = b
  · rw [q.1, q.2, u2_s, if_pos (by omega)]
  · rw [u2_k (by omega), h a' b' h1 h2]
    by_cases q2 : a' < a ∨ (a' = a ∧ b' < b)
    · rw [if_pos q2, if_pos (by omega)]
    · rw [if_neg q2, if_neg (by omega)]
theorem subsub {p q : Nat} (h : q ≤ p) (hp : p ≤ 1000) : nI p - 1 - nI q + 1 = nI (p - q) := by
  have z1 : (1 : Int32).toInt = 1 := rfl
  rw [ti_eq]
  have e1 : (nI p - 1).toInt = (p : Int) - 1 := by rw [ti_sub (by rw [nI_ti (by omega)]; omega) (by rw [nI_ti (by omega)]; omega), nI_ti (by omega), z1]
  have e2 : (nI p - 1 - nI q).toInt = (p : Int) - 1 - q := by rw [ti_sub (by rw [e1, nI_ti (by omega)]; omega) (by rw [e1, nI_ti (by omega)]; omega), e1, nI_ti (by omega)]
  rw [ti_add (by rw [e2]; omega) (by rw [e2]; omega), e2, nI_ti (by omega), z1]; omega
theorem cc_b {L : List Pt} {k ls r a : Nat} {x1 : Int32} {f : Nat → Nat → Option Nat} {J0 : MJ} (hk : k = 1 ∨ k = 3) (hok : okP L) (hQ : QL L I) (hC : CT k L J0) (hr : r < 4) (h72 : I 72 r = nI ls) (hls : 1 ≤ ls) (hls2 : ls ≤ 10) (ha : a < 40) (hf : ∀ a b x, f a b = some x → x ≤ 1000000000) (hq : ∀ J', (∀ c, c ≠ 84 → J' c = J0 c) → DX f (fun a b => oadd (f a b) (rC L ls k a b)) a 40 J' → Go G (fr G m_RM_commonCosts (d + 4) P) 55 [some (.ref 67), some (.int x1), some (.int (nI k)), some (.int (nI r)), some (.int (nI a + 1)), none, none, none, none] [] I J') : ∀ (m b : Nat) (J : MJ), b + m = 40 → a ≤ b → (∀ c, c ≠ 84 → J c = J0 c) → DX f (fun a b => oadd (f a b) (rC L ls k a b)) a b J → Go G (fr G m_RM_commonCosts (d + 4) P) 66 [some (.ref 67), some (.int x1), some (.int (nI k)), some (.int (nI r)), some (.int (nI a)), some (.int (nI b)), none, none, none] [] I J := by
  have hl := hok.1
  intro m
  induction m with
  | zero =>
    intro b J hb hab hF hD
    obtain rfl : b = 40 := by omega
    have hle : (40 : Int32) ≤ nI 40 := by decide
    exact w_RM_commonCosts_66 (fun _ => hq J hF hD) (fun c => absurd hle c)
  | succ m ih =>
    intro b J hb hab hF hD
    have hc : ¬ (40 : Int32) ≤ nI b := nI_ge (a := b) (b := 40) (by omega) (by omega)
    have er : (nI r).toNatClampNeg = r := nI_clamp (by omega)
    have s1 := pf_spec a L
    have s2 := pf_spec (b + 1) L
    have hmo : pf L a ≤ pf L (b + 1) := pf_mono (by omega)
    refine w_RM_commonCosts_66 (fun c => absurd c hc) (fun _ => md_pointFrom hok hQ (by omega) (w_RM_commonCosts_79 ?_))
    rw [nI_1]
    refine md_pointFrom hok hQ (by omega) ?_
    have eix : 40 * nI a + nI b = nI (40 * a + b) := i40 a b
    have exc : (nI (40 * a + b)).toNatClampNeg = 40 * a + b := nI_clamp (by omega)
    have hv : J 84 (40 * a + b) = eO (f a b) := by
      rw [hD a b hab (by omega), if_neg (by omega)]
    have hcm : (nI (pf L (b + 1)) - 1 - nI (pf L a) + 1 < I 72 (nI r).toNatClampNeg) ↔ pf L (b + 1) - pf L a < ls := by
      rw [subsub hmo (by omega), er, h72]; exact nI_ltI (by omega) (by omega)
    have nxt : ∀ z : Int64, z = eO (oadd (f a b) (rC L ls k a b)) → Go G (fr G m_RM_commonCosts (d + 4) P) 186 [some (.ref 67), some (.int x1), some (.int (nI k)), some (.int (nI r)), some (.int (nI a)), some (.int (nI b)), none, none, none] [.long z, .int (40 * nI a + nI b), .ref 84] I J := by
      intro z hz
      rw [eix]
      refine w_RM_commonCosts_186 (vp_in_nI (by omega) (by omega)) ?_
      rw [exc, nI_1, hz]
      exact ih (b + 1) _ (by omega) (by omega) (fun c h => by rw [u2_o h]; exact hF c h) (hD.put hab (by omega))
    have no : oadd (f a b) (rC L ls k a b) = none → Go G (fr G m_RM_commonCosts (d + 4) P) 129 [some (.ref 67), some (.int x1), some (.int (nI k)), some (.int (nI r)), some (.int (nI a)), some (.int (nI b)), some (.int (nI (pf L a))), some (.int (nI (pf L (b + 1)) - 1)), none] [] I J := fun h =>
      w_RM_commonCosts_129 (w_RM_commonCosts_134 (fun c => absurd c (by decide)) (fun c => absurd c (by decide)) (fun c => absurd c (by decide)) (fun _ => nxt (-1) (by rw [h]; rfl)))
    refine w_RM_commonCosts_89 (vp_in_nI hr (by omega)) (fun c => no ?_) (fun _ => by rw [eix]; exact vp_in_nI (by omega) (by omega)) (fun c c2 => ?_) (fun c c2 => no ?_)
    · unfold rC; rw [if_pos (hcm.mp c)]; cases f a b <;> rfl
    · have hge : ¬ pf L (b + 1) - pf L a < ls := fun h => c (hcm.mpr h)
      rw [eix, exc, hv, eO_none (fun x hx => by have := hf a b x hx; omega)] at c2
      cases hfx : f a b with
      | none => exact absurd hfx c2
      | some x =>
        have e7 : nI (pf L (b + 1)) - 1 = nI (pf L (b + 1) - 1) := by rw [show pf L (b + 1) = pf L (b + 1) - 1 + 1 by omega]; exact nI_pred _
        have ei2 : 40 * nI (pf L a) + (nI (pf L (b + 1)) - 1) = nI (40 * pf L a + (pf L (b + 1) - 1)) := by rw [e7]; exact i40 _ _
        have ei2c : (nI (40 * pf L a + (pf L (b + 1) - 1))).toNatClampNeg = 40 * pf L a + (pf L (b + 1) - 1) := nI_clamp (by omega)
        refine w_RM_commonCosts_134 (fun _ => by rw [eix]; exact vp_in_nI (by omega) (by omega)) (fun _ => by rw [ei2]; exact vp_in_nI (by omega) (by omega)) (fun _ => nxt _ ?_) (fun c => absurd rfl c)
        have hent := (hC (pf L a) (pf L (b + 1) - pf L a - 1) (by omega)).1
        rw [show pf L (b + 1) - pf L a - 1 + 1 = pf L (b + 1) - pf L a by omega, show pf L a + (pf L (b + 1) - pf L a - 1) = pf L (b + 1) - 1 by omega, denK_odd hk] at hent
        rw [ei2, ei2c, hF 76 (by decide), hent, eix, exc, hv, hfx]
        unfold rC
        rw [if_neg hge]
        show lI (x : Int) + _ = lI ((x + nK k (seg L (pf L a) (pf L (b + 1) - pf L a)) : Nat) : Int)
        unfold fW
        rw [Nat.div_one, lI_add]
        rfl
    · rw [eix, exc, hv, eO_none (fun x hx => by have := hf a b x hx; omega)] at c2
      rw [c2]; rfl
theorem cc_a {L : List Pt} {k ls r : Nat} {x1 : Int32} {f : Nat → Nat → Option Nat} {J0 : MJ} (hk : k = 1 ∨ k = 3) (hok : okP L) (hQ : QL L I) (hC : CT k L J0) (hr : r < 4) (h72 : I 72 r = nI ls) (hls : 1 ≤ ls) (hls2 : ls ≤ 10) (hf : ∀ a b x, f a b = some x → x ≤ 1000000000) (hq : ∀ J', (∀ c, c ≠ 84 → J' c = J0 c) → CB (fun a b => oadd (f a b) (rC L ls k a b)) J' → Go G (fr G m_RM_commonCosts (d + 4) P) 199 [some (.ref 67), some (.int x1), some (.int (nI k)), some (.int (nI r)), none, none, none, none, none] [] I J') : ∀ (m a : Nat) (J : MJ), a + m = 40 → (∀ c, c ≠ 84 → J c = J0 c) → DX f (fun a b => oadd (f a b) (rC L ls k a b)) a a J → Go G (fr G m_RM_commonCosts (d + 4) P) 55 [some (.ref 67), some (.int x1), some (.int (nI k)), some (.int (nI r)), some (.int (nI a)), none, none, none, none] [] I J := by
  intro m
  induction m with
  | zero =>
    intro a J ha hF hD
    obtain rfl : a = 40 := by omega
    have hle : (40 : Int32) ≤ nI 40 := by decide
    refine w_RM_commonCosts_55 (fun _ => hq J hF (fun a' b' h1 h2 => ?_)) (fun c => absurd hle c)
    rw [hD a' b' h1 h2, if_pos (by omega)]
  | succ m ih =>
    intro a J ha hF hD
    have hc : ¬ (40 : Int32) ≤ nI a := nI_ge (a := a) (b := 40) (by omega) (by omega)
    refine w_RM_commonCosts_55 (fun c => absurd c hc) (fun _ => ?_)
    refine cc_b (J0 := J0) hk hok hQ hC hr h72 hls hls2 (by omega) hf (fun J' g1 g2 => ?_) (40 - a) a J (by omega) (Nat.le_refl _) hF hD
    rw [nI_1]
    exact ih (a + 1) J' (by omega) g1 g2.nx
theorem cc_r {st : ST} (hS : okS st) {k : Nat} (hk : k = 1 ∨ k = 3) {S : Nat} {I0 : MI} {J0 : MJ} (hR : RM st I0 J0) (hSb : S < 16) (hq : ∀ I' J', KM I0 J0 I' J' → CB (cU st S k) J' → P none I' J') : ∀ (m r : Nat) (I : MI) (J : MJ), r + m = 4 → KM I0 J0 I J → CB (fun a b => dcR st S k a b r) J → Go G (fr G m_RM_commonCosts (d + 4) P) 24 [some (.ref 67), some (.int (nI S)), some (.int (nI k)), some (.int (nI r)), none, none, none, none, none] [] I J := by
  intro m
  induction m with
  | zero =>
    intro r I J hr hF hD
    obtain rfl : r = 4 := by omega
    have hle : (4 : Int32) ≤ nI 4 := by decide
    exact w_RM_commonCosts_24 (fun _ => hq I J hF hD) (fun c => absurd hle c) (fun c => absurd hle c)
  | succ m ih =>
    intro r I J hr hF hD
    have hc : ¬ (4 : Int32) ≤ nI r := nI_ge (a := r) (b := 4) (by omega) (by omega)
    have hbi : (((nI S) >>> ((nI r) &&& 31)) &&& 1 = 1) ↔ bit S r = 1 := by
      rw [bitI (by omega) (by omega)]
      have := bit_01 S r
      exact nI_eq (b := 1) (by omega) (by omega)
    have hR' := hR.keep hF
    obtain ⟨e1, l1, l2⟩ := lsr_ok hS (show r < 4 by omega)
    refine w_RM_commonCosts_24 (fun c => absurd c hc) (fun _ c => w_RM_commonCosts_199 ?_) (fun _ c => ?_)
    · rw [nI_1]
      refine ih (r + 1) I J (by omega) hF (fun a b h1 h2 => ?_)
      rw [hD a b h1 h2]
      congr 1
      show _ = if bit S r = 1 then _ else _
      rw [if_neg (fun h => c (hbi.mpr h))]
    · rw [hR'.2.1]
      refine md_pointsBy hR'.1 hS.1 (fun I1 g1 _ g3 => w_RM_commonCosts_47 ?_)
      have hok := pts_ok hS r
      have hQ : QL (pts st r) I1 := PM.ql g3
      refine md_costs (L := pts st r) (by omega) hok hQ (fun I2 J2 f1 f2 => w_RM_commonCosts_52 ?_)
      have hK2 : KM I0 J0 I2 J2 := (hF.tr g1.km).tr f1.km
      have hR2 := hR.keep hK2
      have h84 : J2 84 = J 84 := f1.2 84 (by decide) (by decide) (by decide)
      refine cc_a (J0 := J2) (f := fun a b => dcR st S k a b r) (x1 := nI S) hk hok (hQ.fc f1) f2 (by omega) (by rw [hR2.2.2.1 r (by omega)]; exact e1) l1 l2 (fun a b x hx => Nat.le_trans (dcR_b hS hk r x hx) (by omega)) (fun J3 h1 h2 => w_RM_commonCosts_199 ?_) 40 0 J2 (by omega) (fun _ _ => rfl) (fun a b h1 h2 => ?_)
      · rw [nI_1]
        refine ih (r + 1) I2 J3 (by omega) (hK2.tr ⟨fun a ha => ⟨rfl, h1 a (by omega)⟩, fun _ _ _ => rfl, rfl, fun _ _ _ => rfl, rfl, rfl, rfl, rfl⟩) (fun a b g1 g2 => ?_)
        rw [h2 a b g1 g2]
        congr 1
        show _ = if bit S r = 1 then _ else _
        rw [if_pos (hbi.mp c)]
      · rw [h84, if_neg (by omega)]; exact hD a b h1 h2
theorem md_commonCosts {st : ST} (hS : okS st) {k : Nat} (hk : k = 1 ∨ k = 3) {S : Nat} (hR : RM st I J) (hSb : S < 16) (hq : ∀ I' J', KM I J I' J' → CB (cU st S k) J' → P none I' J') : Ct G (d + 4) m_RM_commonCosts [.ref 67, .int (nI S), .int (nI k)] P I J := by
  refine Ct.ofGo [some (.ref 67), some (.int (nI S)), some (.int (nI k)), none, none, none, none, none, none] (by decide +kernel) rfl (Nat.le_of_ble_eq_true rfl) (w_RM_commonCosts_0 ?_)
  have h0 := cc_zero (G := G) (d := d) (P := P) (I := I) (J := J) (x1 := nI S) (x2 := nI k) (cc_r hS hk (I0 := I) (J0 := J) hR hSb hq 4 0 I _ (by omega) ⟨fun a ha => ⟨rfl, fl_o (by omega)⟩, fun _ _ _ => rfl, rfl, fun _ _ _ => rfl, rfl, rfl, rfl, rfl⟩ (fun a b h1 h2 => by rw [fl_at (by omega)]; rfl)) 1600 0 (by omega)
  rw [fl_0] at h0
  exact h0
end
