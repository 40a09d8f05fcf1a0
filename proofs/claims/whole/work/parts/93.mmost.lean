/-! the model's mostPairs -/
theorem sub_pw {S b : Nat} (h : S.testBit b = true) : 2 ^ b ≤ S ∧ S - 2 ^ b = sD S (2 ^ b) := by
  have h1 := hi_step h
  have h2 : hi S (b + 1) = 2 ^ (b + 1) * (S / 2 ^ (b + 1)) := by unfold hi; rw [Nat.mul_comm]
  have h3 : S = hi S b + S % 2 ^ b := by unfold hi; rw [Nat.mul_comm]; exact (Nat.div_add_mod S (2 ^ b)).symm
  have hp := Nat.two_pow_pos b
  have e : S - 2 ^ b = 2 ^ (b + 1) * (S / 2 ^ (b + 1)) + S % 2 ^ b := by omega
  refine ⟨by omega, set_eq fun i => ?_⟩
  have hlt : S % 2 ^ b < 2 ^ (b + 1) := Nat.lt_of_lt_of_le (Nat.mod_lt _ hp) (Nat.pow_le_pow_right (by omega) (by omega))
  rw [e, Nat.testBit_two_pow_mul_add _ hlt, sD_pw]
  by_cases c : i < b + 1
  · rw [if_pos c, Nat.testBit_mod_two_pow]
    by_cases c2 : i = b
    · simp [c2]
    · have c3 : i < b := by omega
      simp [c2, c3]
  · rw [if_neg c, Nat.testBit_div_two_pow, show i - (b + 1) + (b + 1) = i by omega]
    have c2 : ¬ i = b := by omega
    simp [c2]
theorem c_mlow {C : jm_C} (h : ct_mlow C) {S k : Nat} {v : Int64} {σ : jm_G} {post : Option jm_V → jm_G → Prop} (hv : v = lN S) (hS : S < 2 ^ 63) (hb : S.testBit k = true) (hl : ∀ j, j < k → S.testBit j = false) (hp : post (some (jI (nI k))) σ) : C kX10_lowest [jJ v] σ post := by subst hv; exact h S k σ post hS hb hl hp
def fwT (T i : Nat) : Nat := (nth T i).getD 0
theorem fwT_at {T j : Nat} (hT : T < 2 ^ 40) (h : T.testBit j = true) : fwT T (cnt T j) = j := by
  unfold fwT
  rw [nth_some (by have := bit_lt hT h; omega) h rfl]
  rfl
abbrev ct_mmost (C : jm_C) : Prop := ∀ (N : nw) (K : Nat) (ch : Nat → Nat) (σ : jm_G) (post : Option jm_V → jm_G → Prop), nw_ok N → mN N σ → mCh N ch σ → chOK N K ch → 3 ≤ K → K ≤ 6 → σ.1 38 0 7 = nI K → σ.2 38 0 25 = lN (tbs N ch) → (∀ σ', mf [66, 67] [] σ σ' → post (some (jI (mpI N K ch))) σ') → C kX10_mostPairs [jR 38 0] σ post
theorem T_mmost (L : Nat) {C : jm_C} (hC : jm_mon C) (h1 : ct_mmany C) (h2 : ct_mhas C) (h3 : ct_mlow C) (h4 : ct_misPair C) : ct_mmost (jm_up L C) := by
  intro N K ch σ post hok hN hch hcO hK hK6 hw7 h25 hp
  refine jm_start rfl (Nat.le_of_ble_eq_true rfl) hC fun X hg hw => ?_
  have h40 := hok.1
  have hT4 := tbs_lt hok ch
  have hT := tbs_G N ch
  have hlt : ∀ g, isG N g = true → ch g < 2 ^ 40 := fun g hgg => (hcO g hgg).1.1
  unfold mpI at hp
  have hmp : ∀ q, isMx (prB K ch) (fun z => (tbs N ch).testBit z = true) q → mpN N K ch = q := fun q hq => mpN_eq hq
  generalize mpN N K ch = mp at hp hmp
  generalize tbs N ch = T at hp hmp h25 hT4 hT
  have hc40 := cnt_le T 40
  refine hg [20] 40 _ ?_
  refine c_mmany h1 h25 (p40 hT4) ?_
  refine br_c (fun z => ?_) (fun z => ?_)
  · have z : nI (cnt T 40) ≤ nI 14 := z
    rw [nI_leI (by omega) (by omega)] at z
    rw [if_pos z] at hp
    generalize hn : cnt T 40 = n at hp z
    have hpn : 2 ^ n ≤ 16384 := Nat.le_trans (Nat.pow_le_pow_right (by omega) z) (by decide)
    have hpn0 := Nat.two_pow_pos n
    have hex : ∀ i, i < n → ∃ j, j < 40 ∧ T.testBit j = true ∧ cnt T j = i := fun i hi => by
      obtain ⟨j, j1, j2, j3⟩ := fb_ct_kth (p := fun i => T.testBit i) (k := i) (n := 40) (show i < cnt T 40 by omega)
      exact ⟨j, j1, j2, j3⟩
    have hsy : ∀ a b, prB K ch (fwT T a) (fwT T b) = prB K ch (fwT T b) (fwT T a) := fun a b => prB_symm K ch _ _
    have htn : ∀ {i : Nat}, i < n → isG N (fwT T i) = true := fun {i} hi => by
      obtain ⟨j, -, j2, j3⟩ := hex i hi
      rw [← j3, fwT_at hT4 j2]
      exact hT j j2
    -- what the rows say
    let Fw : jm_G → Prop := fun τ => ∀ i, i < n → τ.1 67 0 i = nI (fwT T i)
    have Fw_def : ∀ τ, Fw τ = ∀ i, i < n → τ.1 67 0 i = nI (fwT T i) := fun _ => rfl
    let Dp : Nat → jm_G → Prop := fun s τ => ∀ t, t < s → ∃ q, q ≤ 20 ∧ τ.1 66 0 t = nI q ∧ isMx (fun a b => prB K ch (fwT T a) (fwT T b)) (fun z => t.testBit z = true) q
    -- over all sets
    have sets : ∀ (d s : Nat), s + d = 2 ^ n → 1 ≤ s → ∀ (τ : jm_G), mf [66, 67] [] σ τ → Fw τ → Dp s τ → ∀ at' : Int32, X (τ, 64, [some (jR 38 0), some (jI (nI n)), some (jI at'), some (jI (nI s)), none, none, none, none, none], []) := by
      intro d
      induction d with
      | zero =>
        intro s hs hs1 τ ho hF hD at'
        have es : s = 2 ^ n := by omega
        obtain ⟨q, q1, q2, q3⟩ := hD (2 ^ n - 1) (by omega)
        have ei : nI 1 <<< (nI n &&& 31) - nI 1 = nI (2 ^ n - 1) := by rw [shI1 (by omega), pk_sub (by omega)]
        refine hg [64] 40 _ ?_
        refine br_c (fun _ => ?_) (fun h => ?_)
        · refine And.intro (show vp_in (nI 1 <<< (nI n &&& 31) - nI 1) 16384 by rw [ei]; exact vp_in_nI (by omega) (by omega)) (And.intro trivial ?_)
          show post (some (jI (τ.1 66 0 (nI 1 <<< (nI n &&& 31) - nI 1).toNatClampNeg))) τ
          rw [ei, nI_clamp (by omega), q2]
          have hI : ∀ i, (2 ^ n - 1).testBit i = true ↔ i < n := fun i => by rw [Nat.testBit_two_pow_sub_one]; simp
          have hinj : ∀ i j, (2 ^ n - 1).testBit i = true → (2 ^ n - 1).testBit j = true → fwT T i = fwT T j → i = j := fun i j hi hj he => by
            obtain ⟨a, -, a2, a3⟩ := hex i ((hI i).mp hi)
            obtain ⟨b, -, b2, b3⟩ := hex j ((hI j).mp hj)
            rw [← a3, ← b3, fwT_at hT4 a2, fwT_at hT4 b2] at he
            rw [← a3, ← b3, he]
          have himg : ∀ z, (∃ i, (2 ^ n - 1).testBit i = true ∧ fwT T i = z) ↔ T.testBit z = true := fun z => by
            constructor
            · rintro ⟨i, hi, rfl⟩
              obtain ⟨a, -, a2, a3⟩ := hex i ((hI i).mp hi)
              rw [← a3, fwT_at hT4 a2]; exact a2
            · intro hz
              have := bit_lt hT4 hz
              refine ⟨cnt T z, (hI _).mpr ?_, fwT_at hT4 hz⟩
              have h5 := cnt_mono T (show z + 1 ≤ 40 by omega)
              rw [cnt_succ, hz] at h5
              have h5 : cnt T z + 1 ≤ cnt T 40 := h5
              omega
          have mapI := fun m => hM_map (A := fun a b => prB K ch (fwT T a) (fwT T b)) (B := prB K ch) (f := fwT T) m (I := fun z => (2 ^ n - 1).testBit z = true) hinj (fun _ _ _ _ => rfl)
          have hq : isMx (prB K ch) (fun z => T.testBit z = true) q := ⟨hM_mono q (fun z => (himg z).mp) ((mapI q).mp q3.1), fun w => q3.2 ((mapI (q + 1)).mpr (hM_mono (q + 1) (fun z => (himg z).mpr) w))⟩
          rw [← hmp q hq]
          exact hp τ ho
        · have h : ¬ nI 1 <<< (nI n &&& 31) ≤ nI s := h
          rw [shI1 (by omega), nI_leI (by omega) (by omega)] at h
          omega
      | succ d ih =>
        intro s hs hs1 τ ho hF hD at'
        obtain ⟨a, ha, hlow⟩ := low_ex (show s ≠ 0 by omega)
        have hsn : ∀ z, s.testBit z = true → z < n := fun z hz => by
          have : s < 2 ^ n := by omega
          exact bit_lt this hz
        have han := hsn a ha
        obtain ⟨sub1a, sub2⟩ := sub_pw ha
        have hla : 2 ^ a < 2 ^ n := pw_lt han
        generalize hl : s - 2 ^ a = l at sub2
        have hls : l < s := by have := Nat.two_pow_pos a; omega
        have lbit : ∀ z, l.testBit z = true ↔ s.testBit z = true ∧ z ≠ a := fun z => by
          rw [sub2, sD_pw]
          simp only [Bool.and_eq_true, Bool.not_eq_true', decide_eq_false_iff_not]
        have el : nI s - (nI 1 <<< (nI a &&& 31)) = nI l := by rw [shI1 (by omega), pk_sub sub1a, hl]
        have es : (nI s).toNatClampNeg = s := nI_clamp (by omega)
        have ins : vp_in (nI s) 16384 := vp_in_nI (by omega) (by omega)
        obtain ⟨v0, v01, v02, v03⟩ := hD l hls
        refine hg [64, 105] 60 _ ?_
        refine br_c (fun h => ?_) (fun _ => ?_)
        · have h : nI 1 <<< (nI n &&& 31) ≤ nI s := h
          rw [shI1 (by omega), nI_leI (by omega) (by omega)] at h
          omega
        · refine c_mlow h3 (S := s) (k := a) (nI_l (by omega)) (by omega) ha hlow ?_
          refine And.intro (show vp_in (nI s - (nI 1 <<< (nI a &&& 31))) 16384 by rw [el]; exact vp_in_nI (by omega) (by omega)) ?_
          refine And.intro ins ?_
          show X (wI τ 66 0 (upd (τ.1 66 0) (nI s).toNatClampNeg (τ.1 66 0 (nI s - (nI 1 <<< (nI a &&& 31))).toNatClampNeg)), 105, [some (jR 38 0), some (jI (nI n)), some (jI at'), some (jI (nI s)), some (jI (nI a)), some (jI (nI s - (nI 1 <<< (nI a &&& 31)))), some (jI (nI a + nI 1)), none, none], [])
          rw [el, es, nI_clamp (by omega), v02, nI_add]
          have inner : ∀ (e b v : Nat), b + e = n → a < b → v ≤ 20 → ∀ (υ : jm_G), mf [66, 67] [] σ υ → Fw υ → Dp s υ → υ.1 66 0 s = nI v → hM (fun a b => prB K ch (fwT T a) (fwT T b)) v (fun z => s.testBit z = true) → ¬ hM (fun a b => prB K ch (fwT T a) (fwT T b)) (v + 1) (fun z => l.testBit z = true) → (∀ c, c < b → l.testBit c = true → prB K ch (fwT T a) (fwT T c) = true → ¬ hM (fun a b => prB K ch (fwT T a) (fwT T b)) v (fun z => l.testBit z = true ∧ z ≠ c)) → X (υ, 105, [some (jR 38 0), some (jI (nI n)), some (jI at'), some (jI (nI s)), some (jI (nI a)), some (jI (nI l)), some (jI (nI b)), none, none], []) := by
            intro e
            induction e with
            | zero =>
              intro b v hb hab hv υ hu hFu hDu hvu i1 i2 i3
              have eb : b = n := by omega
              subst eb
              refine hg [64, 105] 60 _ ?_
              refine br_c (fun _ => ?_) (fun h => absurd (show nI b ≤ nI b from nI_le (Nat.le_refl _) (by omega)) h)
              refine hw _ _ _ [some (jR 38 0), some (jI (nI b)), some (jI at'), some (jI (nI s + nI 1)), none, none, none, none, none] _ (by repeat' first | exact trivial | exact rfl | apply And.intro) ?_
              rw [nI_add]
              refine ih (s + 1) (by omega) (by omega) υ hu hFu (fun t ht => ?_) at'
              by_cases et : t = s
              · rw [et]
                refine ⟨v, hv, hvu, i1, fun hh => ?_⟩
                rcases hM_two hsy v (S := fun z => s.testBit z = true) (v := a) ha hh with q | ⟨c, c1, c2, c3, c4⟩
                · exact i2 (hM_mono (v + 1) (fun z hz => (lbit z).mpr hz) q)
                · exact i3 c (hsn c c2) ((lbit c).mpr ⟨c2, c1⟩) c3 (hM_mono v (fun z hz => ⟨(lbit z).mpr ⟨hz.1, hz.2.1⟩, hz.2.2⟩) c4)
              · exact hDu t (by omega)
            | succ e ihe =>
              intro b v hb hab hv υ hu hFu hDu hvu i1 i2 i3
              have go : ∀ (v' : Nat) (x c d : Int32), x = nI v' → v' ≤ 20 → hM (fun a b => prB K ch (fwT T a) (fwT T b)) v' (fun z => s.testBit z = true) → ¬ hM (fun a b => prB K ch (fwT T a) (fwT T b)) (v' + 1) (fun z => l.testBit z = true) → (∀ c, c < b + 1 → l.testBit c = true → prB K ch (fwT T a) (fwT T c) = true → ¬ hM (fun a b => prB K ch (fwT T a) (fwT T b)) v' (fun z => l.testBit z = true ∧ z ≠ c)) → X (wI υ 66 0 (upd (υ.1 66 0) (nI s).toNatClampNeg x), 105, [some (jR 38 0), some (jI (nI n)), some (jI at'), some (jI (nI s)), some (jI (nI a)), some (jI (nI l)), some (jI (nI b + nI 1)), some (jI c), some (jI d)], []) := by
                intro v' x c d hx hv' j1 j2 j3
                refine hw _ _ _ [some (jR 38 0), some (jI (nI n)), some (jI at'), some (jI (nI s)), some (jI (nI a)), some (jI (nI l)), some (jI (nI b + nI 1)), none, none] _ (by repeat' first | exact trivial | exact rfl | apply And.intro) ?_
                rw [es, nI_add, hx]
                refine ihe (b + 1) v' (by omega) (by omega) hv' _ (mf_wI hu (by decide) (by decide)) hFu (fun t ht => ?_) ?_ j1 j2 j3
                · obtain ⟨q, q1, q2, q3⟩ := hDu t ht
                  refine ⟨q, q1, ?_, q3⟩
                  rw [wI1, if_pos ⟨rfl, rfl⟩, upd_at, if_neg (by omega)]
                  exact q2
                · rw [wI1, if_pos ⟨rfl, rfl⟩, upd_at, if_pos rfl]
              have v66 : υ.1 66 0 (nI s).toNatClampNeg = nI v := by rw [es]; exact hvu
              have same : (l.testBit b = true → prB K ch (fwT T a) (fwT T b) = true → ¬ hM (fun a b => prB K ch (fwT T a) (fwT T b)) v (fun z => l.testBit z = true ∧ z ≠ b)) → ∀ c d : Int32, X (wI υ 66 0 (upd (υ.1 66 0) (nI s).toNatClampNeg (υ.1 66 0 (nI s).toNatClampNeg)), 105, [some (jR 38 0), some (jI (nI n)), some (jI at'), some (jI (nI s)), some (jI (nI a)), some (jI (nI l)), some (jI (nI b + nI 1)), some (jI c), some (jI d)], []) := fun hno c d => go v _ c d v66 hv i1 i2 fun c hc hlc hpr => by
                by_cases ec : c = b
                · rw [ec] at hlc hpr ⊢; exact hno hlc hpr
                · exact i3 c (by omega) hlc hpr
              refine hg [64, 105] 90 _ ?_
              refine br_c (fun h => ?_) (fun _ => ?_)
              · have h : nI n ≤ nI b := h
                rw [nI_leI (by omega) (by omega)] at h
                omega
              · refine c_mhas h2 (S := l) (n := b) (nI_l (by omega)) rfl (by omega) (by omega) ?_
                refine br_c (fun z => ?_) (fun z => ?_)
                · have z := bI_0.mp z
                  refine br_c (fun _ => ?_) (fun h => absurd rfl h)
                  refine And.intro ins ?_
                  refine br_c (fun _ => ?_) (fun h => ?_)
                  · refine And.intro ins (And.intro ins ?_)
                    exact same (fun q => by rw [z] at q; cases q) _ _
                  · have h : ¬ nI 0 ≤ υ.1 66 0 (nI s).toNatClampNeg := h
                    rw [v66] at h
                    exact absurd (nI_le (by omega) (by omega)) h
                · have hlb := bI_n0.mp z
                  refine And.intro (vp_in_nI (by omega) (by omega)) ?_
                  refine And.intro (vp_in_nI (by omega) (by omega)) ?_
                  refine h4 N K (fwT T a) (fwT T b) ch υ _ _ _ hok (mCh_mf hch hu (by decide)) hlt (by omega) hK6 (by rw [(hu.2 0 7 (by decide)).1]; exact hw7) (htn han) (htn (by omega)) (by rw [nI_clamp (by omega)]; exact hFu a han) (by rw [nI_clamp (by omega)]; exact hFu b (by omega)) ?_
                  refine br_c (fun y => ?_) (fun y => ?_)
                  · have y := bI_0.mp y
                    refine br_c (fun _ => ?_) (fun h => absurd rfl h)
                    refine And.intro ins ?_
                    refine br_c (fun _ => ?_) (fun h => ?_)
                    · refine And.intro ins (And.intro ins ?_)
                      exact same (fun _ q => by rw [y] at q; cases q) _ _
                    · have h : ¬ nI 0 ≤ υ.1 66 0 (nI s).toNatClampNeg := h
                      rw [v66] at h
                      exact absurd (nI_le (by omega) (by omega)) h
                  · have y := bI_n0.mp y
                    obtain ⟨sb1, sb2⟩ := sub_pw hlb
                    have elb : nI l - (nI 1 <<< (nI b &&& 31)) = nI (l - 2 ^ b) := by rw [shI1 (by omega), pk_sub sb1]
                    have hp0 := Nat.two_pow_pos b
                    obtain ⟨w, w1, w2, w3⟩ := hDu (l - 2 ^ b) (by omega)
                    have w66 : υ.1 66 0 (nI l - (nI 1 <<< (nI b &&& 31))).toNatClampNeg = nI w := by rw [elb, nI_clamp (by omega)]; exact w2
                    have w3 : isMx (fun a b => prB K ch (fwT T a) (fwT T b)) (fun z => l.testBit z = true ∧ z ≠ b) w := isMx_iff (fun z => by
                      rw [sb2, sD_pw]
                      simp only [Bool.and_eq_true, Bool.not_eq_true', decide_eq_false_iff_not]) w3
                    have hlt2 : l < 2 ^ 40 := Nat.lt_of_lt_of_le (show l < 2 ^ n by omega) (Nat.pow_le_pow_right (by omega) (by omega))
                    refine br_c (fun h => absurd h (by decide)) (fun _ => ?_)
                    refine And.intro (show vp_in (nI l - (nI 1 <<< (nI b &&& 31))) 16384 by rw [elb]; exact vp_in_nI (by omega) (by omega)) ?_
                    refine And.intro ins ?_
                    refine br_c (fun h => ?_) (fun h => ?_)
                    · have h : υ.1 66 0 (nI l - (nI 1 <<< (nI b &&& 31))).toNatClampNeg + nI 1 ≤ υ.1 66 0 (nI s).toNatClampNeg := h
                      rw [w66, v66, nI_add, nI_leI (by omega) (by omega)] at h
                      refine And.intro ins (And.intro ins ?_)
                      exact same (fun _ _ hh => w3.2 (hM_lt h hh)) _ _
                    · have h : ¬ υ.1 66 0 (nI l - (nI 1 <<< (nI b &&& 31))).toNatClampNeg + nI 1 ≤ υ.1 66 0 (nI s).toNatClampNeg := h
                      rw [w66, v66, nI_add, nI_leI (by omega) (by omega)] at h
                      have hMs : hM (fun a b => prB K ch (fwT T a) (fwT T b)) (w + 1) (fun z => s.testBit z = true) := ⟨a, b, by omega, ha, ((lbit b).mp hlb).1, y, hM_mono w (fun z hz => ⟨((lbit z).mp hz.1).1, ((lbit z).mp hz.1).2, hz.2⟩) w3.1⟩
                      have hws : w + 1 ≤ 20 := by
                        have h5 := hM_cnt (w + 1) (show s < 2 ^ 40 from Nat.lt_of_lt_of_le (show s < 2 ^ n by omega) (Nat.pow_le_pow_right (by omega) (by omega))) hMs
                        have h6 := cnt_le s 40
                        omega
                      refine And.intro ins ?_
                      refine go (w + 1) _ _ _ (show υ.1 66 0 (nI l - (nI 1 <<< (nI b &&& 31))).toNatClampNeg + nI 1 = _ by rw [w66, nI_add]) hws hMs (fun hh => i2 (hM_lt (by omega) hh)) fun c hc hlc hpr hh => ?_
                      by_cases ec : c = b
                      · rw [ec] at hh; exact w3.2 hh
                      · exact i3 c (by omega) hlc hpr (hM_lt (by omega) hh)
          refine inner (n - (a + 1)) (a + 1) v0 (by omega) (by omega) v01 _ (mf_wI ho (by decide) (by decide)) hF (fun t ht => ?_) ?_ ?_ v03.2 (fun c hc hlc => ?_)
          · obtain ⟨q, q1, q2, q3⟩ := hD t ht
            refine ⟨q, q1, ?_, q3⟩
            rw [wI1, if_pos ⟨rfl, rfl⟩, upd_at, if_neg (by omega)]
            exact q2
          · rw [wI1, if_pos ⟨rfl, rfl⟩, upd_at, if_pos rfl]
          · exact hM_mono v0 (fun z hz => ((lbit z).mp hz).1) v03.1
          · exfalso
            have h5 := (lbit c).mp hlc
            have : a < c := by
              rcases Nat.lt_trichotomy c a with q | q | q
              · rw [hlow c q] at h5; cases h5.1
              · exact absurd q h5.2
              · exact q
            omega
    have few : ∀ (d k : Nat), k + d = nN N → ∀ (τ : jm_G), mf [66, 67] [] σ τ → (∀ j, j < k → T.testBit j = true → τ.1 67 0 (cnt T j) = nI j) → X (τ, 20, [some (jR 38 0), some (jI (nI n)), some (jI (nI (cnt T k))), some (jI (nI k)), none, none, none, none, none], []) := by
      intro d
      induction d with
      | zero =>
        intro k hk τ ho hr
        have ek : k = nN N := by omega
        subst ek
        have hNt := mN_mf hN ho (by decide) (by decide)
        refine hg [20, 64] 40 _ ?_
        refine br_c (fun _ => ?_) (fun h => ?_)
        · refine And.intro (show vp_in (nI 0) 16384 from vp_in_nI (by omega) (by omega)) ?_
          show X (wI τ 66 0 (upd (τ.1 66 0) (nI 0).toNatClampNeg (nI 0)), 64, [some (jR 38 0), some (jI (nI n)), some (jI (nI (cnt T (nN N)))), some (jI (nI 1)), none, none, none, none, none], [])
          refine sets (2 ^ n - 1) 1 (by omega) (Nat.le_refl _) _ (mf_wI ho (by decide) (by decide)) (fun i hi => ?_) (fun t ht => ?_) _
          · obtain ⟨j, j1, j2, j3⟩ := hex i hi
            rw [← j3, fwT_at hT4 j2]
            exact hr j (isG_lt (hT j j2)) j2
          · have e0 : t = 0 := by omega
            subst e0
            refine ⟨0, by omega, ?_, trivial, ?_⟩
            · rw [wI1, if_pos ⟨rfl, rfl⟩, nI_clamp (by omega), upd_at, if_pos rfl]
            · rintro ⟨a, b, -, ha, -⟩
              have ha : (0 : Nat).testBit a = true := ha
              rw [Nat.zero_testBit] at ha
              cases ha
        · have h : ¬ τ.1 38 0 1 ≤ nI (nN N) := h
          rw [hNt.1, nI_leI (by omega) (by omega)] at h
          omega
      | succ d ih =>
        intro k hk τ ho hr
        have hNt := mN_mf hN ho (by decide) (by decide)
        refine hg [20, 64] 40 _ ?_
        refine br_c (fun h => ?_) (fun _ => ?_)
        · have h : τ.1 38 0 1 ≤ nI k := h
          rw [hNt.1, nI_leI (by omega) (by omega)] at h
          omega
        · refine c_mhas h2 (show τ.2 38 0 25 = lN T by rw [(ho.2 0 25 (by decide)).2]; exact h25) rfl (p40 hT4) (by omega) ?_
          refine br_c (fun y => ?_) (fun y => ?_)
          · have y := bI_0.mp y
            have := ih (k + 1) (by omega) τ ho (fun j hj hb => by
              by_cases e : j = k
              · rw [e, y] at hb; cases hb
              · exact hr j (by omega) hb)
            rw [cnt_succ, y] at this
            show X (τ, 20, [some (jR 38 0), some (jI (nI n)), some (jI (nI (cnt T k))), some (jI (nI k + nI 1)), none, none, none, none, none], [])
            rw [nI_add]
            exact this
          · have y := bI_n0.mp y
            have hck : cnt T k < n := by
              have h5 := cnt_mono T (show k + 1 ≤ 40 by omega)
              rw [cnt_succ, y] at h5
              have h5 : cnt T k + 1 ≤ cnt T 40 := h5
              omega
            have := ih (k + 1) (by omega) (wI τ 67 0 (upd (τ.1 67 0) (cnt T k) (nI k))) (mf_wI ho (by decide) (by decide)) (fun j hj hb => by
              rw [wI1, if_pos ⟨rfl, rfl⟩, upd_at]
              by_cases e : j = k
              · rw [e, if_pos rfl]
              · have hne : cnt T j ≠ cnt T k := fun h5 => e (fb_ct_kth_one (p := fun i => T.testBit i) hb y h5)
                rw [if_neg hne]
                exact hr j (by omega) hb)
            rw [cnt_succ, y] at this
            refine And.intro (vp_in_nI (by omega) (by omega)) ?_
            show X (wI τ 67 0 (upd (τ.1 67 0) (nI (cnt T k)).toNatClampNeg (nI k)), 20, [some (jR 38 0), some (jI (nI n)), some (jI (nI (cnt T k) + nI 1)), some (jI (nI k + nI 1)), none, none, none, none, none], [])
            rw [nI_clamp (by omega), nI_add, nI_add]
            exact this
    exact few (nN N) 0 (by omega) σ (mf_refl _ _ _) fun j hj => absurd hj (by omega)
  · have z : ¬ nI (cnt T 40) ≤ nI 14 := z
    rw [nI_leI (by omega) (by omega)] at z
    rw [if_neg z] at hp
    exact And.intro trivial (hp σ (mf_refl _ _ _))
