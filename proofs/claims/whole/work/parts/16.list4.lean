theorem up_lt {v : Nat → Nat} {n k : Nat} (hv : ∀ i, i < n → v i < 128) (hk : k < 128) : ∀ i, i < n + 1 → upN v n k i < 128 := by
  intro i hi
  unfold upN
  by_cases h : i = n
  · rw [if_pos h]; exact hk
  · rw [if_neg h]; exact hv i (by omega)
def lc (ad : Nat → Nat) (v : Nat → Nat) (i n : Nat) : Nat → Option Nat := fun j => if i ≤ j ∧ j < n then some (ad (v j + 128)) else none
theorem lc_step (ad : Nat → Nat) (v : Nat → Nat) (i n : Nat) : va_up (lc ad v i n) i none = lc ad v (i + 1) n := by
  funext j
  unfold va_up lc
  by_cases h : j = i
  · subst h
    have : ¬ (j + 1 ≤ j ∧ j < n) := by omega
    simp [this]
  · by_cases h2 : i ≤ j ∧ j < n
    · have : i + 1 ≤ j ∧ j < n := by omega
      simp [h, h2, this]
    · have : ¬ (i + 1 ≤ j ∧ j < n) := by omega
      simp [h, h2, this]
theorem lc_0 (ad : Nat → Nat) (v : Nat → Nat) (n : Nat) : lf ad v n = lc ad v 0 n := by
  funext j
  simp [lf, lc]
theorem lc_n (ad : Nat → Nat) (v : Nat → Nat) (n : Nat) : lc ad v n n = lf ad v 0 := by
  funext j
  have : ¬ (n ≤ j ∧ j < n) := by omega
  simp [lf, lc, this]
theorem dJx4a65c_add_9ea2d_0 : decode cJx4a65c_add_9ea2d 0 = .ok (.aload_n 0, 1) := by decide +kernel
theorem dJx4a65c_add_9ea2d_1 : decode cJx4a65c_add_9ea2d 1 = .ok (.dup, 1) := by decide +kernel
theorem dJx4a65c_add_9ea2d_2 : decode cJx4a65c_add_9ea2d 2 = .ok (.getfield 63, 3) := by decide +kernel
theorem dJx4a65c_add_9ea2d_5 : decode cJx4a65c_add_9ea2d 5 = .ok (.iconst 1, 1) := by decide +kernel
theorem dJx4a65c_add_9ea2d_6 : decode cJx4a65c_add_9ea2d 6 = .ok (.iadd, 1) := by decide +kernel
theorem dJx4a65c_add_9ea2d_7 : decode cJx4a65c_add_9ea2d 7 = .ok (.putfield 63, 3) := by decide +kernel
theorem dJx4a65c_add_9ea2d_10 : decode cJx4a65c_add_9ea2d 10 = .ok (.aload_n 0, 1) := by decide +kernel
theorem dJx4a65c_add_9ea2d_11 : decode cJx4a65c_add_9ea2d 11 = .ok (.aload_n 1, 1) := by decide +kernel
theorem dJx4a65c_add_9ea2d_12 : decode cJx4a65c_add_9ea2d 12 = .ok (.aload_n 0, 1) := by decide +kernel
theorem dJx4a65c_add_9ea2d_13 : decode cJx4a65c_add_9ea2d 13 = .ok (.getfield 9, 3) := by decide +kernel
theorem dJx4a65c_add_9ea2d_16 : decode cJx4a65c_add_9ea2d 16 = .ok (.aload_n 0, 1) := by decide +kernel
theorem dJx4a65c_add_9ea2d_17 : decode cJx4a65c_add_9ea2d 17 = .ok (.getfield 48, 3) := by decide +kernel
theorem dJx4a65c_add_9ea2d_20 : decode cJx4a65c_add_9ea2d 20 = .ok (.invokevirtual 131, 3) := by decide +kernel
theorem dJx4a65c_add_9ea2d_23 : decode cJx4a65c_add_9ea2d 23 = .ok (.iconst 1, 1) := by decide +kernel
theorem dJx4a65c_add_9ea2d_24 : decode cJx4a65c_add_9ea2d 24 = .ok (.ireturn, 1) := by decide +kernel
theorem k_Jx4a65c_add_9ea2d : KF RJx4a65c ⟨"java/util/List", "add", "(Ljava/lang/Object;)Z"⟩ yJx4a65c_add_9ea2d cJx4a65c_add_9ea2d 2 (some .boolean) 1 := ⟨q1258, q1260, q8, q1262, by decide +kernel⟩
set_option maxHeartbeats 4000000 in
set_option maxRecDepth 100000 in
theorem m_Jx4a65c_add_9ea2d (l : Launch) (dC : Nat → ClassId) (dI : Nat → Nat → Nat) (cy : Nat → ClassId) (ad : Nat → Nat) (t2 tc a sz : Nat) (u : LST) (hu : okL u) (hn : u.2.2.2.2.2 < 12) (k : Nat) (hk : k < 128) (P : LST → Prop) (hF : ∀ w : LST, okL w → w.2.2.2.2.2 = u.2.2.2.2.2 + 1 → w.2.2.2.2.1 = upN u.2.2.2.2.1 u.2.2.2.2.2 k → P w) : Met l yJx4a65c_add_9ea2d (ws_ yJx4a65c_add_9ea2d cJx4a65c_add_9ea2d 2 (some .boolean)) ({ frames := 6, cells := 1, slots := 15, locals := 205 } : Room) (va_Pc [.ref a, .ref (ad (k + 128))] (PcL dC dI cy t2 tc ad (wl ad cy t2 a u) sz)) (va_Qi (fun (r : Int32) w => r = 1 ∧ P w) (fun (w : LST) t => va_P (dC, dI) classes (wl ad cy t2 a w) t.heap ∧ va_D (va_A (wl ad cy t2 a u) sz) (wl ad cy t2 a w)) (va_A (wl ad cy t2 a u) sz)) 1 15 (va_A (wl ad cy t2 a u) sz) := by
  obtain ⟨al, e, cap, mc, v, n⟩ := u
  have hn : n < 12 := hn
  have hv : ∀ i, i < n → v i < 128 := hu.2.1
  cases al
  · have hz : n = 0 := hu.2.2.2 rfl
    subst hz
    refine Met.ofCx (own := RJx4a65c) (by decide) rfl (Nat.le_of_ble_eq_true rfl) ?_
    intro p e9 s m below meth c hC hv ls hl
    obtain ⟨hx, hb, hr, hml, hown, hts, hlocks⟩ := hC
    have hl : lv_has ls 2 [(0, .ref a), (1, .ref (ad (k + 128)))] := hl
    obtain ⟨hsz, hP, hK, hD0, hZ⟩ := hv
    subst hsz
    have hD := hD0.self (sz := s.heap.size)
    generalize hAe : va_A (wl ad cy t2 a (false, e, cap, mc, v, 0)) s.heap.size = A at hD hZ ⊢
    have hA : ∀ q : Nat, s.heap.size ≤ q → A q := fun q h => by rw [← hAe]; exact Or.inr h
    have hS : va_S A s.heap s.heap [] := va_S.rf
    clear hAe
    have hP : va_P (dC, dI) classes ([(a, .inr (5, [.int mc, .ref t2, .int 0]))]) s.heap := hP
    have hD : va_D A ([(a, .inr (5, [.int mc, .ref t2, .int 0]))]) := hD
    refine lv_aload_n hx hb dJx4a65c_add_9ea2d_0 rfl (lv_at hl 0 rfl) ?_
    refine lv_dup hx hb dJx4a65c_add_9ea2d_1 rfl ?_
    refine va_get (D := (dC, dI)) (ci := 5) (v := .int mc) (C := RJx4a65c) (T := TJx4a65c) (N := 3) hx hb hts in_Jx4a65c hown hK.1 hP 0 rfl rfl 0 (by decide) (hts _ q916) (u_same (hts _ q915)) rfl dJx4a65c_add_9ea2d_2 ?_
    refine lv_iconst (v := 1) hx hb dJx4a65c_add_9ea2d_5 (by decide) ?_
    refine lv_iadd hx hb dJx4a65c_add_9ea2d_6 ?_
    refine va_put (D := (dC, dI)) (ci := 5) (v := .int (mc + 1)) (ty := .int) (C := RJx4a65c) (T := TJx4a65c) (N := 3) hx hb hts in_Jx4a65c tyJx4a65c tyJx4a65c_ok nmJx4a65c hown hK.1 hP hD hS 0 rfl rfl 0 (by decide) (hts _ q916) (u_same (hts _ q915)) rfl (by decide +kernel) rfl rfl (Nat.le_of_ble_eq_true rfl) dJx4a65c_add_9ea2d_7 (fun H locs hP hD hS => ?_)
    have hP : va_P (dC, dI) classes ([(a, .inr (5, [.int (mc + 1), .ref t2, .int 0]))]) H := hP
    have hD : va_D A ([(a, .inr (5, [.int (mc + 1), .ref t2, .int 0]))]) := hD
    refine lv_aload_n hx hb dJx4a65c_add_9ea2d_10 rfl (lv_at hl 0 rfl) ?_
    refine lv_aload_n hx hb dJx4a65c_add_9ea2d_11 rfl (lv_at hl 1 rfl) ?_
    refine lv_aload_n hx hb dJx4a65c_add_9ea2d_12 rfl (lv_at hl 0 rfl) ?_
    refine va_get (D := (dC, dI)) (ci := 5) (v := .ref t2) (C := RJx4a65c) (T := TJx4a65c) (N := 3) hx hb hts in_Jx4a65c hown hK.1 hP 0 rfl rfl 1 (by decide) (hts _ q909) (fun _ h9 => h9) rfl dJx4a65c_add_9ea2d_13 ?_
    refine lv_aload_n hx hb dJx4a65c_add_9ea2d_16 rfl (lv_at hl 0 rfl) ?_
    refine va_get (D := (dC, dI)) (ci := 5) (v := .int 0) (C := RJx4a65c) (T := TJx4a65c) (N := 3) hx hb hts in_Jx4a65c hown hK.1 hP 0 rfl rfl 2 (by decide) (hts _ q912) (fun _ h9 => h9) rfl dJx4a65c_add_9ea2d_17 ?_
    have hPc := hP.sub (ws' := [(a, .inr (5, [.int (mc + 1), .ref t2, .int 0]))]) [0] rfl
    have hDc := hD.sub (ws' := [(a, .inr (5, [.int (mc + 1), .ref t2, .int 0]))]) [0] (by decide) rfl
    have hFc := va_free (wc := [(a, .inr (5, [.int (mc + 1), .ref t2, .int 0]))]) hD hS hA [0] rfl
    refine va_callv (va_runV (As := [.ref (ad (k + 128)), .ref t2, .int 0]) (rest := []) ⟨hx, hb, hml, hown, hts⟩ (m_Jx4a65c_add_72be8_C l dC dI cy ad t2 tc a _ (mc + 1) v k hk) (cbV hts k_Jx4a65c_add_72be8 q1263 ⟨rfl, rfl⟩ ⟨Nat.le_of_ble_eq_true rfl, Nat.le_of_ble_eq_true rfl⟩) (preL 0 hK hPc hDc rfl rfl hZ hS hFc) rfl rfl hl.1 rfl (lv_room (Nat.le_of_ble_eq_true rfl)) dJx4a65c_add_9ea2d_20 ⟨Nat.le_of_ble_eq_true rfl, Nat.le_of_ble_eq_true rfl⟩) hS (fun q _ h => hFc q h) hFc (fun u t H1 locs ht hvm hw hB hz1 hk1 hS => ?_)
    obtain ⟨hP1, hD1⟩ := hB
    rw [ht] at hP1
    obtain ⟨hP, hD⟩ := va_join (wr := []) (w1 := [(a, .inr (5, [.int (mc + 1), .ref u.1, .int (nI (0 + 1))])), (u.1, .inl (cy 4, u.2, .inr (.inr (.inr (.inr (lf ad (upN v 0 k) (0 + 1)))))))]) hP hD [0] [] rfl rfl (by decide) (by decide) hk1 hFc hP1 hD1
    generalize H1 = H at hP hS ⊢
    have hP : va_P (dC, dI) classes ([(a, .inr (5, [.int (mc + 1), .ref u.1, .int (nI (0 + 1))])), (u.1, .inl (cy 4, u.2, .inr (.inr (.inr (.inr (lf ad (upN v 0 k) (0 + 1)))))))]) H := hP
    have hD : va_D A ([(a, .inr (5, [.int (mc + 1), .ref u.1, .int (nI (0 + 1))])), (u.1, .inl (cy 4, u.2, .inr (.inr (.inr (.inr (lf ad (upN v 0 k) (0 + 1)))))))]) := hD
    refine lv_iconst (v := 1) hx hb dJx4a65c_add_9ea2d_23 (by decide) ?_
    exact W.zret (v := 1) hx hb hr rfl (fun t ht hW => ⟨⟨1, (true, u.1, u.2, mc + 1, upN v 0 k, 0 + 1), rfl, ⟨rfl, hF _ (⟨(by show _ + 1 ≤ 12; omega), (fun i hi => up_lt hv hk i hi), (fun _ => hw), (fun h => by cases h)⟩) rfl rfl⟩, by rw [ht]; exact hP, hD⟩, hS.F ht⟩) hS.2.2 dJx4a65c_add_9ea2d_24
  · have hcap : n ≤ cap ∧ (cap = 10 ∨ cap = 15) := hu.2.2.1 rfl
    rcases Nat.lt_or_ge n cap with hlt | hge
    · skip
      refine Met.ofCx (own := RJx4a65c) (by decide) rfl (Nat.le_of_ble_eq_true rfl) ?_
      intro p e9 s m below meth c hC hv ls hl
      obtain ⟨hx, hb, hr, hml, hown, hts, hlocks⟩ := hC
      have hl : lv_has ls 2 [(0, .ref a), (1, .ref (ad (k + 128)))] := hl
      obtain ⟨hsz, hP, hK, hD0, hZ⟩ := hv
      subst hsz
      have hD := hD0.self (sz := s.heap.size)
      generalize hAe : va_A (wl ad cy t2 a (true, e, cap, mc, v, n)) s.heap.size = A at hD hZ ⊢
      have hA : ∀ q : Nat, s.heap.size ≤ q → A q := fun q h => by rw [← hAe]; exact Or.inr h
      have hS : va_S A s.heap s.heap [] := va_S.rf
      clear hAe
      have hP : va_P (dC, dI) classes ([(a, .inr (5, [.int mc, .ref e, .int (nI n)])), (e, .inl (cy 4, cap, .inr (.inr (.inr (.inr (lf ad v n))))))]) s.heap := hP
      have hD : va_D A ([(a, .inr (5, [.int mc, .ref e, .int (nI n)])), (e, .inl (cy 4, cap, .inr (.inr (.inr (.inr (lf ad v n))))))]) := hD
      refine lv_aload_n hx hb dJx4a65c_add_9ea2d_0 rfl (lv_at hl 0 rfl) ?_
      refine lv_dup hx hb dJx4a65c_add_9ea2d_1 rfl ?_
      refine va_get (D := (dC, dI)) (ci := 5) (v := .int mc) (C := RJx4a65c) (T := TJx4a65c) (N := 3) hx hb hts in_Jx4a65c hown hK.1 hP 0 rfl rfl 0 (by decide) (hts _ q916) (u_same (hts _ q915)) rfl dJx4a65c_add_9ea2d_2 ?_
      refine lv_iconst (v := 1) hx hb dJx4a65c_add_9ea2d_5 (by decide) ?_
      refine lv_iadd hx hb dJx4a65c_add_9ea2d_6 ?_
      refine va_put (D := (dC, dI)) (ci := 5) (v := .int (mc + 1)) (ty := .int) (C := RJx4a65c) (T := TJx4a65c) (N := 3) hx hb hts in_Jx4a65c tyJx4a65c tyJx4a65c_ok nmJx4a65c hown hK.1 hP hD hS 0 rfl rfl 0 (by decide) (hts _ q916) (u_same (hts _ q915)) rfl (by decide +kernel) rfl rfl (Nat.le_of_ble_eq_true rfl) dJx4a65c_add_9ea2d_7 (fun H locs hP hD hS => ?_)
      have hP : va_P (dC, dI) classes ([(a, .inr (5, [.int (mc + 1), .ref e, .int (nI n)])), (e, .inl (cy 4, cap, .inr (.inr (.inr (.inr (lf ad v n))))))]) H := hP
      have hD : va_D A ([(a, .inr (5, [.int (mc + 1), .ref e, .int (nI n)])), (e, .inl (cy 4, cap, .inr (.inr (.inr (.inr (lf ad v n))))))]) := hD
      refine lv_aload_n hx hb dJx4a65c_add_9ea2d_10 rfl (lv_at hl 0 rfl) ?_
      refine lv_aload_n hx hb dJx4a65c_add_9ea2d_11 rfl (lv_at hl 1 rfl) ?_
      refine lv_aload_n hx hb dJx4a65c_add_9ea2d_12 rfl (lv_at hl 0 rfl) ?_
      refine va_get (D := (dC, dI)) (ci := 5) (v := .ref e) (C := RJx4a65c) (T := TJx4a65c) (N := 3) hx hb hts in_Jx4a65c hown hK.1 hP 0 rfl rfl 1 (by decide) (hts _ q909) (fun _ h9 => h9) rfl dJx4a65c_add_9ea2d_13 ?_
      refine lv_aload_n hx hb dJx4a65c_add_9ea2d_16 rfl (lv_at hl 0 rfl) ?_
      refine va_get (D := (dC, dI)) (ci := 5) (v := .int (nI n)) (C := RJx4a65c) (T := TJx4a65c) (N := 3) hx hb hts in_Jx4a65c hown hK.1 hP 0 rfl rfl 2 (by decide) (hts _ q912) (fun _ h9 => h9) rfl dJx4a65c_add_9ea2d_17 ?_
      have hPc := hP.sub (ws' := [(a, .inr (5, [.int (mc + 1), .ref e, .int (nI n)])), (e, .inl (cy 4, cap, .inr (.inr (.inr (.inr (lf ad v n))))))]) [0, 1] rfl
      have hDc := hD.sub (ws' := [(a, .inr (5, [.int (mc + 1), .ref e, .int (nI n)])), (e, .inl (cy 4, cap, .inr (.inr (.inr (.inr (lf ad v n))))))]) [0, 1] (by decide) rfl
      have hFc := va_free (wc := [(a, .inr (5, [.int (mc + 1), .ref e, .int (nI n)])), (e, .inl (cy 4, cap, .inr (.inr (.inr (.inr (lf ad v n))))))]) hD hS hA [0, 1] rfl
      refine va_callv (va_runV (As := [.ref (ad (k + 128)), .ref e, .int (nI n)]) (rest := []) ⟨hx, hb, hml, hown, hts⟩ (m_Jx4a65c_add_72be8_A l dC dI cy ad t2 tc a _ e cap (mc + 1) v n k hlt hcap.2 hk) (cbV hts k_Jx4a65c_add_72be8 q1263 ⟨rfl, rfl⟩ ⟨Nat.le_of_ble_eq_true rfl, Nat.le_of_ble_eq_true rfl⟩) (preL 0 hK hPc hDc rfl rfl hZ hS hFc) rfl rfl hl.1 rfl (lv_room (Nat.le_of_ble_eq_true rfl)) dJx4a65c_add_9ea2d_20 ⟨Nat.le_of_ble_eq_true rfl, Nat.le_of_ble_eq_true rfl⟩) hS (fun q _ h => hFc q h) hFc (fun u t H1 locs ht hvm hw hB hz1 hk1 hS => ?_)
      obtain ⟨hP1, hD1⟩ := hB
      rw [ht] at hP1
      obtain ⟨hP, hD⟩ := va_join (wr := []) (w1 := [(a, .inr (5, [.int (mc + 1), .ref u.1, .int (nI (n + 1))])), (u.1, .inl (cy 4, u.2, .inr (.inr (.inr (.inr (lf ad (upN v n k) (n + 1)))))))]) hP hD [0, 1] [] rfl rfl (by decide) (by decide) hk1 hFc hP1 hD1
      generalize H1 = H at hP hS ⊢
      have hP : va_P (dC, dI) classes ([(a, .inr (5, [.int (mc + 1), .ref u.1, .int (nI (n + 1))])), (u.1, .inl (cy 4, u.2, .inr (.inr (.inr (.inr (lf ad (upN v n k) (n + 1)))))))]) H := hP
      have hD : va_D A ([(a, .inr (5, [.int (mc + 1), .ref u.1, .int (nI (n + 1))])), (u.1, .inl (cy 4, u.2, .inr (.inr (.inr (.inr (lf ad (upN v n k) (n + 1)))))))]) := hD
      refine lv_iconst (v := 1) hx hb dJx4a65c_add_9ea2d_23 (by decide) ?_
      exact W.zret (v := 1) hx hb hr rfl (fun t ht hW => ⟨⟨1, (true, u.1, u.2, mc + 1, upN v n k, n + 1), rfl, ⟨rfl, hF _ (⟨(by show _ + 1 ≤ 12; omega), (fun i hi => up_lt hv hk i hi), (fun _ => hw), (fun h => by cases h)⟩) rfl rfl⟩, by rw [ht]; exact hP, hD⟩, hS.F ht⟩) hS.2.2 dJx4a65c_add_9ea2d_24
    · have h10 : n = 10 := by omega
      have hc10 : cap = 10 := by omega
      subst h10
      subst hc10
      refine Met.ofCx (own := RJx4a65c) (by decide) rfl (Nat.le_of_ble_eq_true rfl) ?_
      intro p e9 s m below meth c hC hv ls hl
      obtain ⟨hx, hb, hr, hml, hown, hts, hlocks⟩ := hC
      have hl : lv_has ls 2 [(0, .ref a), (1, .ref (ad (k + 128)))] := hl
      obtain ⟨hsz, hP, hK, hD0, hZ⟩ := hv
      subst hsz
      have hD := hD0.self (sz := s.heap.size)
      generalize hAe : va_A (wl ad cy t2 a (true, e, 10, mc, v, 10)) s.heap.size = A at hD hZ ⊢
      have hA : ∀ q : Nat, s.heap.size ≤ q → A q := fun q h => by rw [← hAe]; exact Or.inr h
      have hS : va_S A s.heap s.heap [] := va_S.rf
      clear hAe
      have hP : va_P (dC, dI) classes ([(a, .inr (5, [.int mc, .ref e, .int (nI 10)])), (e, .inl (cy 4, 10, .inr (.inr (.inr (.inr (lf ad v 10))))))]) s.heap := hP
      have hD : va_D A ([(a, .inr (5, [.int mc, .ref e, .int (nI 10)])), (e, .inl (cy 4, 10, .inr (.inr (.inr (.inr (lf ad v 10))))))]) := hD
      refine lv_aload_n hx hb dJx4a65c_add_9ea2d_0 rfl (lv_at hl 0 rfl) ?_
      refine lv_dup hx hb dJx4a65c_add_9ea2d_1 rfl ?_
      refine va_get (D := (dC, dI)) (ci := 5) (v := .int mc) (C := RJx4a65c) (T := TJx4a65c) (N := 3) hx hb hts in_Jx4a65c hown hK.1 hP 0 rfl rfl 0 (by decide) (hts _ q916) (u_same (hts _ q915)) rfl dJx4a65c_add_9ea2d_2 ?_
      refine lv_iconst (v := 1) hx hb dJx4a65c_add_9ea2d_5 (by decide) ?_
      refine lv_iadd hx hb dJx4a65c_add_9ea2d_6 ?_
      refine va_put (D := (dC, dI)) (ci := 5) (v := .int (mc + 1)) (ty := .int) (C := RJx4a65c) (T := TJx4a65c) (N := 3) hx hb hts in_Jx4a65c tyJx4a65c tyJx4a65c_ok nmJx4a65c hown hK.1 hP hD hS 0 rfl rfl 0 (by decide) (hts _ q916) (u_same (hts _ q915)) rfl (by decide +kernel) rfl rfl (Nat.le_of_ble_eq_true rfl) dJx4a65c_add_9ea2d_7 (fun H locs hP hD hS => ?_)
      have hP : va_P (dC, dI) classes ([(a, .inr (5, [.int (mc + 1), .ref e, .int (nI 10)])), (e, .inl (cy 4, 10, .inr (.inr (.inr (.inr (lf ad v 10))))))]) H := hP
      have hD : va_D A ([(a, .inr (5, [.int (mc + 1), .ref e, .int (nI 10)])), (e, .inl (cy 4, 10, .inr (.inr (.inr (.inr (lf ad v 10))))))]) := hD
      refine lv_aload_n hx hb dJx4a65c_add_9ea2d_10 rfl (lv_at hl 0 rfl) ?_
      refine lv_aload_n hx hb dJx4a65c_add_9ea2d_11 rfl (lv_at hl 1 rfl) ?_
      refine lv_aload_n hx hb dJx4a65c_add_9ea2d_12 rfl (lv_at hl 0 rfl) ?_
      refine va_get (D := (dC, dI)) (ci := 5) (v := .ref e) (C := RJx4a65c) (T := TJx4a65c) (N := 3) hx hb hts in_Jx4a65c hown hK.1 hP 0 rfl rfl 1 (by decide) (hts _ q909) (fun _ h9 => h9) rfl dJx4a65c_add_9ea2d_13 ?_
      refine lv_aload_n hx hb dJx4a65c_add_9ea2d_16 rfl (lv_at hl 0 rfl) ?_
      refine va_get (D := (dC, dI)) (ci := 5) (v := .int (nI 10)) (C := RJx4a65c) (T := TJx4a65c) (N := 3) hx hb hts in_Jx4a65c hown hK.1 hP 0 rfl rfl 2 (by decide) (hts _ q912) (fun _ h9 => h9) rfl dJx4a65c_add_9ea2d_17 ?_
      have hPc := hP.sub (ws' := [(a, .inr (5, [.int (mc + 1), .ref e, .int (nI 10)])), (e, .inl (cy 4, 10, .inr (.inr (.inr (.inr (lf ad v 10))))))]) [0, 1] rfl
      have hDc := hD.sub (ws' := [(a, .inr (5, [.int (mc + 1), .ref e, .int (nI 10)])), (e, .inl (cy 4, 10, .inr (.inr (.inr (.inr (lf ad v 10))))))]) [0, 1] (by decide) rfl
      have hFc := va_free (wc := [(a, .inr (5, [.int (mc + 1), .ref e, .int (nI 10)])), (e, .inl (cy 4, 10, .inr (.inr (.inr (.inr (lf ad v 10))))))]) hD hS hA [0, 1] rfl
      refine va_callv (va_runV (As := [.ref (ad (k + 128)), .ref e, .int (nI 10)]) (rest := []) ⟨hx, hb, hml, hown, hts⟩ (m_Jx4a65c_add_72be8_B l dC dI cy ad t2 tc a _ e (mc + 1) v hv k hk) (cbV hts k_Jx4a65c_add_72be8 q1263 ⟨rfl, rfl⟩ ⟨Nat.le_of_ble_eq_true rfl, Nat.le_of_ble_eq_true rfl⟩) (preL 0 hK hPc hDc rfl rfl hZ hS hFc) rfl rfl hl.1 rfl (lv_room (Nat.le_of_ble_eq_true rfl)) dJx4a65c_add_9ea2d_20 ⟨Nat.le_of_ble_eq_true rfl, Nat.le_of_ble_eq_true rfl⟩) hS (fun q _ h => hFc q h) hFc (fun u t H1 locs ht hvm hw hB hz1 hk1 hS => ?_)
      obtain ⟨hP1, hD1⟩ := hB
      rw [ht] at hP1
      obtain ⟨hP, hD⟩ := va_join (wr := []) (w1 := [(a, .inr (5, [.int (mc + 1), .ref u.1, .int (nI (10 + 1))])), (u.1, .inl (cy 4, u.2, .inr (.inr (.inr (.inr (lf ad (upN v 10 k) (10 + 1)))))))]) hP hD [0, 1] [] rfl rfl (by decide) (by decide) hk1 hFc hP1 hD1
      generalize H1 = H at hP hS ⊢
      have hP : va_P (dC, dI) classes ([(a, .inr (5, [.int (mc + 1), .ref u.1, .int (nI (10 + 1))])), (u.1, .inl (cy 4, u.2, .inr (.inr (.inr (.inr (lf ad (upN v 10 k) (10 + 1)))))))]) H := hP
      have hD : va_D A ([(a, .inr (5, [.int (mc + 1), .ref u.1, .int (nI (10 + 1))])), (u.1, .inl (cy 4, u.2, .inr (.inr (.inr (.inr (lf ad (upN v 10 k) (10 + 1)))))))]) := hD
      refine lv_iconst (v := 1) hx hb dJx4a65c_add_9ea2d_23 (by decide) ?_
      exact W.zret (v := 1) hx hb hr rfl (fun t ht hW => ⟨⟨1, (true, u.1, u.2, mc + 1, upN v 10 k, 10 + 1), rfl, ⟨rfl, hF _ (⟨(by show _ + 1 ≤ 12; omega), (fun i hi => up_lt hv hk i hi), (fun _ => hw), (fun h => by cases h)⟩) rfl rfl⟩, by rw [ht]; exact hP, hD⟩, hS.F ht⟩) hS.2.2 dJx4a65c_add_9ea2d_24
theorem dJx4a65c_clear_da8c8_0 : decode cJx4a65c_clear_da8c8 0 = .ok (.aload_n 0, 1) := by decide +kernel
theorem dJx4a65c_clear_da8c8_1 : decode cJx4a65c_clear_da8c8 1 = .ok (.dup, 1) := by decide +kernel
theorem dJx4a65c_clear_da8c8_2 : decode cJx4a65c_clear_da8c8 2 = .ok (.getfield 63, 3) := by decide +kernel
theorem dJx4a65c_clear_da8c8_5 : decode cJx4a65c_clear_da8c8 5 = .ok (.iconst 1, 1) := by decide +kernel
theorem dJx4a65c_clear_da8c8_6 : decode cJx4a65c_clear_da8c8 6 = .ok (.iadd, 1) := by decide +kernel
theorem dJx4a65c_clear_da8c8_7 : decode cJx4a65c_clear_da8c8 7 = .ok (.putfield 63, 3) := by decide +kernel
theorem dJx4a65c_clear_da8c8_10 : decode cJx4a65c_clear_da8c8 10 = .ok (.aload_n 0, 1) := by decide +kernel
theorem dJx4a65c_clear_da8c8_11 : decode cJx4a65c_clear_da8c8 11 = .ok (.getfield 9, 3) := by decide +kernel
theorem dJx4a65c_clear_da8c8_14 : decode cJx4a65c_clear_da8c8 14 = .ok (.astore_n 1, 1) := by decide +kernel
theorem dJx4a65c_clear_da8c8_15 : decode cJx4a65c_clear_da8c8 15 = .ok (.aload_n 0, 1) := by decide +kernel
theorem dJx4a65c_clear_da8c8_16 : decode cJx4a65c_clear_da8c8 16 = .ok (.getfield 48, 3) := by decide +kernel
theorem dJx4a65c_clear_da8c8_19 : decode cJx4a65c_clear_da8c8 19 = .ok (.istore_n 2, 1) := by decide +kernel
theorem dJx4a65c_clear_da8c8_20 : decode cJx4a65c_clear_da8c8 20 = .ok (.aload_n 0, 1) := by decide +kernel
theorem dJx4a65c_clear_da8c8_21 : decode cJx4a65c_clear_da8c8 21 = .ok (.iconst 0, 1) := by decide +kernel
theorem dJx4a65c_clear_da8c8_22 : decode cJx4a65c_clear_da8c8 22 = .ok (.dup_x1, 1) := by decide +kernel
theorem dJx4a65c_clear_da8c8_23 : decode cJx4a65c_clear_da8c8 23 = .ok (.putfield 48, 3) := by decide +kernel
theorem dJx4a65c_clear_da8c8_26 : decode cJx4a65c_clear_da8c8 26 = .ok (.istore_n 3, 1) := by decide +kernel
theorem dJx4a65c_clear_da8c8_27 : decode cJx4a65c_clear_da8c8 27 = .ok (.iload_n 3, 1) := by decide +kernel
theorem dJx4a65c_clear_da8c8_28 : decode cJx4a65c_clear_da8c8 28 = .ok (.iload_n 2, 1) := by decide +kernel
theorem dJx4a65c_clear_da8c8_29 : decode cJx4a65c_clear_da8c8 29 = .ok (.if_icmp .ge 13, 3) := by decide +kernel
theorem dJx4a65c_clear_da8c8_32 : decode cJx4a65c_clear_da8c8 32 = .ok (.aload_n 1, 1) := by decide +kernel
theorem dJx4a65c_clear_da8c8_33 : decode cJx4a65c_clear_da8c8 33 = .ok (.iload_n 3, 1) := by decide +kernel
theorem dJx4a65c_clear_da8c8_34 : decode cJx4a65c_clear_da8c8 34 = .ok (.aconst_null, 1) := by decide +kernel
theorem dJx4a65c_clear_da8c8_35 : decode cJx4a65c_clear_da8c8 35 = .ok (.aastore, 1) := by decide +kernel
theorem dJx4a65c_clear_da8c8_36 : decode cJx4a65c_clear_da8c8 36 = .ok (.iinc 3 1, 3) := by decide +kernel
theorem dJx4a65c_clear_da8c8_39 : decode cJx4a65c_clear_da8c8 39 = .ok (.goto (-12), 3) := by decide +kernel
theorem dJx4a65c_clear_da8c8_42 : decode cJx4a65c_clear_da8c8 42 = .ok (.return_, 1) := by decide +kernel
theorem k_Jx4a65c_clear_da8c8 : KF RJx4a65c ⟨"java/util/List", "clear", "()V"⟩ yJx4a65c_clear_da8c8 cJx4a65c_clear_da8c8 4 none 0 := ⟨q945, q947, q8, q949, by decide +kernel⟩
set_option maxHeartbeats 4000000 in
set_option maxRecDepth 100000 in
theorem m_Jx4a65c_clear_da8c8 (l : Launch) (dC : Nat → ClassId) (dI : Nat → Nat → Nat) (cy : Nat → ClassId) (ad : Nat → Nat) (t2 tc a sz : Nat) (u : LST) (hu : okL u) (P : LST → Prop) (hF : ∀ w : LST, okL w → w.2.2.2.2.2 = 0 → P w) : Met l yJx4a65c_clear_da8c8 (ws_ yJx4a65c_clear_da8c8 cJx4a65c_clear_da8c8 4 none) ({ frames := 0, cells := 0, slots := 0, locals := 0 } : Room) (va_Pc [.ref a] (PcL dC dI cy t2 tc ad (wl ad cy t2 a u) sz)) (va_Qv P (fun (w : LST) t => va_P (dC, dI) classes (wl ad cy t2 a w) t.heap ∧ va_D (va_A (wl ad cy t2 a u) sz) (wl ad cy t2 a w)) (va_A (wl ad cy t2 a u) sz)) 0 0 (va_A (wl ad cy t2 a u) sz) := by
  obtain ⟨al, e, cap, mc, v, n⟩ := u
  have hn : n ≤ 12 := hu.1
  cases al
  · have hz : n = 0 := hu.2.2.2 rfl
    subst hz
    refine Met.ofCx (own := RJx4a65c) (by decide) rfl (Nat.le_of_ble_eq_true rfl) ?_
    intro p e9 s m below meth c hC hv ls hl
    obtain ⟨hx, hb, hr, hml, hown, hts, hlocks⟩ := hC
    have hl : lv_has ls 4 [(0, .ref a)] := hl
    obtain ⟨hsz, hP, hK, hD0, hZ⟩ := hv
    subst hsz
    have hD := hD0.self (sz := s.heap.size)
    generalize hAe : va_A (wl ad cy t2 a (false, e, cap, mc, v, 0)) s.heap.size = A at hD hZ ⊢
    have hA : ∀ q : Nat, s.heap.size ≤ q → A q := fun q h => by rw [← hAe]; exact Or.inr h
    have hS : va_S A s.heap s.heap [] := va_S.rf
    clear hAe
    have hP : va_P (dC, dI) classes ([(a, .inr (5, [.int mc, .ref t2, .int 0]))]) s.heap := hP
    have hD : va_D A ([(a, .inr (5, [.int mc, .ref t2, .int 0]))]) := hD
    refine lv_aload_n hx hb dJx4a65c_clear_da8c8_0 rfl (lv_at hl 0 rfl) ?_
    refine lv_dup hx hb dJx4a65c_clear_da8c8_1 rfl ?_
    refine va_get (D := (dC, dI)) (ci := 5) (v := .int mc) (C := RJx4a65c) (T := TJx4a65c) (N := 3) hx hb hts in_Jx4a65c hown hK.1 hP 0 rfl rfl 0 (by decide) (hts _ q916) (u_same (hts _ q915)) rfl dJx4a65c_clear_da8c8_2 ?_
    refine lv_iconst (v := 1) hx hb dJx4a65c_clear_da8c8_5 (by decide) ?_
    refine lv_iadd hx hb dJx4a65c_clear_da8c8_6 ?_
    refine va_put (D := (dC, dI)) (ci := 5) (v := .int (mc + 1)) (ty := .int) (C := RJx4a65c) (T := TJx4a65c) (N := 3) hx hb hts in_Jx4a65c tyJx4a65c tyJx4a65c_ok nmJx4a65c hown hK.1 hP hD hS 0 rfl rfl 0 (by decide) (hts _ q916) (u_same (hts _ q915)) rfl (by decide +kernel) rfl rfl (Nat.le_of_ble_eq_true rfl) dJx4a65c_clear_da8c8_7 (fun H locs hP hD hS => ?_)
    have hP : va_P (dC, dI) classes ([(a, .inr (5, [.int (mc + 1), .ref t2, .int 0]))]) H := hP
    have hD : va_D A ([(a, .inr (5, [.int (mc + 1), .ref t2, .int 0]))]) := hD
    refine lv_aload_n hx hb dJx4a65c_clear_da8c8_10 rfl (lv_at hl 0 rfl) ?_
    refine va_get (D := (dC, dI)) (ci := 5) (v := .ref t2) (C := RJx4a65c) (T := TJx4a65c) (N := 3) hx hb hts in_Jx4a65c hown hK.1 hP 0 rfl rfl 1 (by decide) (hts _ q909) (fun _ h9 => h9) rfl dJx4a65c_clear_da8c8_11 ?_
    refine lv_astore_n (lv' := [(1, .ref t2), (0, .ref a)]) hx hb dJx4a65c_clear_da8c8_14 rfl hl (by decide) rfl (fun ls hl => ?_)
    refine lv_aload_n hx hb dJx4a65c_clear_da8c8_15 rfl (lv_at hl 1 rfl) ?_
    refine va_get (D := (dC, dI)) (ci := 5) (v := .int 0) (C := RJx4a65c) (T := TJx4a65c) (N := 3) hx hb hts in_Jx4a65c hown hK.1 hP 0 rfl rfl 2 (by decide) (hts _ q912) (fun _ h9 => h9) rfl dJx4a65c_clear_da8c8_16 ?_
    refine lv_istore_n (lv' := [(2, .int 0), (1, .ref t2), (0, .ref a)]) hx hb dJx4a65c_clear_da8c8_19 rfl hl (by decide) rfl (fun ls hl => ?_)
    refine lv_aload_n hx hb dJx4a65c_clear_da8c8_20 rfl (lv_at hl 2 rfl) ?_
    refine lv_iconst (v := 0) hx hb dJx4a65c_clear_da8c8_21 (by decide) ?_
    refine lv_dup_x1 hx hb dJx4a65c_clear_da8c8_22 rfl rfl ?_
    refine va_put (D := (dC, dI)) (ci := 5) (v := .int 0) (ty := .int) (C := RJx4a65c) (T := TJx4a65c) (N := 3) hx hb hts in_Jx4a65c tyJx4a65c tyJx4a65c_ok nmJx4a65c hown hK.1 hP hD hS 0 rfl rfl 2 (by decide) (hts _ q912) (fun _ h9 => h9) rfl (by decide +kernel) rfl rfl (Nat.le_of_ble_eq_true rfl) dJx4a65c_clear_da8c8_23 (fun H locs hP hD hS => ?_)
    have hP : va_P (dC, dI) classes ([(a, .inr (5, [.int (mc + 1), .ref t2, .int 0]))]) H := hP
    have hD : va_D A ([(a, .inr (5, [.int (mc + 1), .ref t2, .int 0]))]) := hD
    refine lv_istore_n (lv' := [(3, .int 0), (2, .int 0), (1, .ref t2), (0, .ref a)]) hx hb dJx4a65c_clear_da8c8_26 rfl hl (by decide) rfl (fun ls hl => ?_)
    refine lv_iload_n hx hb dJx4a65c_clear_da8c8_27 rfl (lv_at hl 0 rfl) ?_
    refine lv_iload_n hx hb dJx4a65c_clear_da8c8_28 rfl (lv_at hl 1 rfl) ?_
    refine lv_icmp_ge (tgt := 42) hx hb dJx4a65c_clear_da8c8_29 (by decide) (fun cz => ?_) (fun cz => absurd ((by decide : (0 : Int32) ≤ 0)) cz)
    exact W.vret hx hb hr (fun t ht hW => ⟨⟨(false, e, cap, mc + 1, v, 0), rfl, hF _ hu rfl, by rw [ht]; exact hP, hD⟩, hS.F ht⟩) hS.2.2 dJx4a65c_clear_da8c8_42
  · have hcap : n ≤ cap ∧ (cap = 10 ∨ cap = 15) := hu.2.2.1 rfl
    refine Met.ofCx (own := RJx4a65c) (by decide) rfl (Nat.le_of_ble_eq_true rfl) ?_
    intro p e9 s m below meth c hC hv ls hl
    obtain ⟨hx, hb, hr, hml, hown, hts, hlocks⟩ := hC
    have hl : lv_has ls 4 [(0, .ref a)] := hl
    obtain ⟨hsz, hP, hK, hD0, hZ⟩ := hv
    subst hsz
    have hD := hD0.self (sz := s.heap.size)
    generalize hAe : va_A (wl ad cy t2 a (true, e, cap, mc, v, n)) s.heap.size = A at hD hZ ⊢
    have hA : ∀ q : Nat, s.heap.size ≤ q → A q := fun q h => by rw [← hAe]; exact Or.inr h
    have hS : va_S A s.heap s.heap [] := va_S.rf
    clear hAe
    have hP : va_P (dC, dI) classes ([(a, .inr (5, [.int mc, .ref e, .int (nI n)])), (e, .inl (cy 4, cap, .inr (.inr (.inr (.inr (lf ad v n))))))]) s.heap := hP
    have hD : va_D A ([(a, .inr (5, [.int mc, .ref e, .int (nI n)])), (e, .inl (cy 4, cap, .inr (.inr (.inr (.inr (lf ad v n))))))]) := hD
    refine lv_aload_n hx hb dJx4a65c_clear_da8c8_0 rfl (lv_at hl 0 rfl) ?_
    refine lv_dup hx hb dJx4a65c_clear_da8c8_1 rfl ?_
    refine va_get (D := (dC, dI)) (ci := 5) (v := .int mc) (C := RJx4a65c) (T := TJx4a65c) (N := 3) hx hb hts in_Jx4a65c hown hK.1 hP 0 rfl rfl 0 (by decide) (hts _ q916) (u_same (hts _ q915)) rfl dJx4a65c_clear_da8c8_2 ?_
    refine lv_iconst (v := 1) hx hb dJx4a65c_clear_da8c8_5 (by decide) ?_
    refine lv_iadd hx hb dJx4a65c_clear_da8c8_6 ?_
    refine va_put (D := (dC, dI)) (ci := 5) (v := .int (mc + 1)) (ty := .int) (C := RJx4a65c) (T := TJx4a65c) (N := 3) hx hb hts in_Jx4a65c tyJx4a65c tyJx4a65c_ok nmJx4a65c hown hK.1 hP hD hS 0 rfl rfl 0 (by decide) (hts _ q916) (u_same (hts _ q915)) rfl (by decide +kernel) rfl rfl (Nat.le_of_ble_eq_true rfl) dJx4a65c_clear_da8c8_7 (fun H locs hP hD hS => ?_)
    have hP : va_P (dC, dI) classes ([(a, .inr (5, [.int (mc + 1), .ref e, .int (nI n)])), (e, .inl (cy 4, cap, .inr (.inr (.inr (.inr (lf ad v n))))))]) H := hP
    have hD : va_D A ([(a, .inr (5, [.int (mc + 1), .ref e, .int (nI n)])), (e, .inl (cy 4, cap, .inr (.inr (.inr (.inr (lf ad v n))))))]) := hD
    refine lv_aload_n hx hb dJx4a65c_clear_da8c8_10 rfl (lv_at hl 0 rfl) ?_
    refine va_get (D := (dC, dI)) (ci := 5) (v := .ref e) (C := RJx4a65c) (T := TJx4a65c) (N := 3) hx hb hts in_Jx4a65c hown hK.1 hP 0 rfl rfl 1 (by decide) (hts _ q909) (fun _ h9 => h9) rfl dJx4a65c_clear_da8c8_11 ?_
    refine lv_astore_n (lv' := [(1, .ref e), (0, .ref a)]) hx hb dJx4a65c_clear_da8c8_14 rfl hl (by decide) rfl (fun ls hl => ?_)
    refine lv_aload_n hx hb dJx4a65c_clear_da8c8_15 rfl (lv_at hl 1 rfl) ?_
    refine va_get (D := (dC, dI)) (ci := 5) (v := .int (nI n)) (C := RJx4a65c) (T := TJx4a65c) (N := 3) hx hb hts in_Jx4a65c hown hK.1 hP 0 rfl rfl 2 (by decide) (hts _ q912) (fun _ h9 => h9) rfl dJx4a65c_clear_da8c8_16 ?_
    refine lv_istore_n (lv' := [(2, .int (nI n)), (1, .ref e), (0, .ref a)]) hx hb dJx4a65c_clear_da8c8_19 rfl hl (by decide) rfl (fun ls hl => ?_)
    refine lv_aload_n hx hb dJx4a65c_clear_da8c8_20 rfl (lv_at hl 2 rfl) ?_
    refine lv_iconst (v := 0) hx hb dJx4a65c_clear_da8c8_21 (by decide) ?_
    refine lv_dup_x1 hx hb dJx4a65c_clear_da8c8_22 rfl rfl ?_
    refine va_put (D := (dC, dI)) (ci := 5) (v := .int 0) (ty := .int) (C := RJx4a65c) (T := TJx4a65c) (N := 3) hx hb hts in_Jx4a65c tyJx4a65c tyJx4a65c_ok nmJx4a65c hown hK.1 hP hD hS 0 rfl rfl 2 (by decide) (hts _ q912) (fun _ h9 => h9) rfl (by decide +kernel) rfl rfl (Nat.le_of_ble_eq_true rfl) dJx4a65c_clear_da8c8_23 (fun H locs hP hD hS => ?_)
    have hP : va_P (dC, dI) classes ([(a, .inr (5, [.int (mc + 1), .ref e, .int 0])), (e, .inl (cy 4, cap, .inr (.inr (.inr (.inr (lf ad v n))))))]) H := hP
    have hD : va_D A ([(a, .inr (5, [.int (mc + 1), .ref e, .int 0])), (e, .inl (cy 4, cap, .inr (.inr (.inr (.inr (lf ad v n))))))]) := hD
    refine lv_istore_n (lv' := [(3, .int 0), (2, .int (nI n)), (1, .ref e), (0, .ref a)]) hx hb dJx4a65c_clear_da8c8_26 rfl hl (by decide) rfl (fun ls hl => ?_)
    have hL : ∀ (d i : Nat), i + d = n → ∀ (H : Heap) (locs : List Loc) (ls : Array Slot), va_P (dC, dI) classes ([(a, .inr (5, [.int (mc + 1), .ref e, .int 0])), (e, .inl (cy 4, cap, .inr (.inr (.inr (.inr (lc ad v i n))))))]) H → va_D A ([(a, .inr (5, [.int (mc + 1), .ref e, .int 0])), (e, .inl (cy 4, cap, .inr (.inr (.inr (.inr (lc ad v i n))))))]) → va_S A s.heap H locs → lv_has ls 4 [(3, .int (nI i)), (2, .int (nI n)), (1, .ref e)] → W p l e9 (({ frames := 0, cells := 0, slots := 0, locals := 0 } : Room)) s m ([.ref a] : List Value).toArray below meth c H locs 0 0 (MQ below (va_Qv P (fun (w : LST) t => va_P (dC, dI) classes (wl ad cy t2 a w) t.heap ∧ va_D A (wl ad cy t2 a w)) A) ([.ref a] : List Value).toArray s 0 0 A) (F0 m 27 ls []) := by
      intro d
      induction d with
      | zero =>
        intro i hi H locs ls hP hD hS hl
        have hin : i = n := by omega
        subst hin
        refine lv_iload_n hx hb dJx4a65c_clear_da8c8_27 rfl (lv_at hl 0 rfl) ?_
        refine lv_iload_n hx hb dJx4a65c_clear_da8c8_28 rfl (lv_at hl 1 rfl) ?_
        refine lv_icmp_ge (tgt := 42) hx hb dJx4a65c_clear_da8c8_29 (by decide) (fun cz => ?_) (fun cz => absurd ((nI_le (Nat.le_refl i) (by omega))) cz)
        rw [lc_n] at hP hD
        exact W.vret hx hb hr (fun t ht hW => ⟨⟨(true, e, cap, mc + 1, v, 0), rfl, hF _ ⟨Nat.zero_le _, (fun _ h => absurd h (Nat.not_lt_zero _)), (fun _ => ⟨Nat.zero_le _, hcap.2⟩), (fun h => by cases h)⟩ rfl, by rw [ht]; exact hP, hD⟩, hS.F ht⟩) hS.2.2 dJx4a65c_clear_da8c8_42
      | succ d ih =>
        intro i hi H locs ls hP hD hS hl
        refine lv_iload_n hx hb dJx4a65c_clear_da8c8_27 rfl (lv_at hl 0 rfl) ?_
        refine lv_iload_n hx hb dJx4a65c_clear_da8c8_28 rfl (lv_at hl 1 rfl) ?_
        refine lv_icmp_ge (tgt := 42) hx hb dJx4a65c_clear_da8c8_29 (by decide) (fun cz => absurd cz ((nI_ge (show i < n by omega) (by omega)))) (fun cz => ?_)
        refine lv_aload_n hx hb dJx4a65c_clear_da8c8_32 rfl (lv_at hl 2 rfl) ?_
        refine lv_iload_n hx hb dJx4a65c_clear_da8c8_33 rfl (lv_at hl 0 rfl) ?_
        refine lv_null hx hb dJx4a65c_clear_da8c8_34 ?_
        refine va_astqN hx hb hK.1 hP hD hS 1 4 rfl rfl (vp_in_nI (by omega) (by omega)) dJx4a65c_clear_da8c8_35 (fun H locs hP hD hS => ?_)
        simp only [List.set] at hP hD
        rw [show va_up (lc ad v i n) (nI i).toNatClampNeg (none) = lc ad v (i + 1) n from by rw [nI_clamp (by omega)]; exact lc_step ad v i n] at hP hD
        have hP : va_P (dC, dI) classes ([(a, .inr (5, [.int (mc + 1), .ref e, .int 0])), (e, .inl (cy 4, cap, .inr (.inr (.inr (.inr (lc ad v (i + 1) n))))))]) H := hP
        have hD : va_D A ([(a, .inr (5, [.int (mc + 1), .ref e, .int 0])), (e, .inl (cy 4, cap, .inr (.inr (.inr (.inr (lc ad v (i + 1) n))))))]) := hD
        refine lv_iinc (v := nI (i + 1)) (lv' := [(3, .int (nI (i + 1))), (2, .int (nI n)), (1, .ref e)]) hx hb dJx4a65c_clear_da8c8_36 hl (k := 0) rfl (nI_1 i) (by decide) rfl (fun ls hl => ?_)
        refine lv_goto (tgt := 27) hx hb dJx4a65c_clear_da8c8_39 (by decide) ?_
        exact ih (i + 1) (by omega) _ _ _ hP hD hS hl
    rw [lc_0] at hP hD
    exact hL n 0 (by omega) _ _ _ hP hD hS (lv_sub hl [0, 1, 2] rfl)
theorem dJx4a65c_fastRemove_b59b0_0 : decode cJx4a65c_fastRemove_b59b0 0 = .ok (.aload_n 0, 1) := by decide +kernel
theorem dJx4a65c_fastRemove_b59b0_1 : decode cJx4a65c_fastRemove_b59b0 1 = .ok (.dup, 1) := by decide +kernel
theorem dJx4a65c_fastRemove_b59b0_2 : decode cJx4a65c_fastRemove_b59b0 2 = .ok (.getfield 63, 3) := by decide +kernel
theorem dJx4a65c_fastRemove_b59b0_5 : decode cJx4a65c_fastRemove_b59b0 5 = .ok (.iconst 1, 1) := by decide +kernel
theorem dJx4a65c_fastRemove_b59b0_6 : decode cJx4a65c_fastRemove_b59b0 6 = .ok (.iadd, 1) := by decide +kernel
theorem dJx4a65c_fastRemove_b59b0_7 : decode cJx4a65c_fastRemove_b59b0 7 = .ok (.putfield 63, 3) := by decide +kernel
theorem dJx4a65c_fastRemove_b59b0_10 : decode cJx4a65c_fastRemove_b59b0 10 = .ok (.aload_n 0, 1) := by decide +kernel
theorem dJx4a65c_fastRemove_b59b0_11 : decode cJx4a65c_fastRemove_b59b0 11 = .ok (.getfield 48, 3) := by decide +kernel
theorem dJx4a65c_fastRemove_b59b0_14 : decode cJx4a65c_fastRemove_b59b0 14 = .ok (.iconst 1, 1) := by decide +kernel
theorem dJx4a65c_fastRemove_b59b0_15 : decode cJx4a65c_fastRemove_b59b0 15 = .ok (.isub, 1) := by decide +kernel
theorem dJx4a65c_fastRemove_b59b0_16 : decode cJx4a65c_fastRemove_b59b0 16 = .ok (.dup, 1) := by decide +kernel
theorem dJx4a65c_fastRemove_b59b0_17 : decode cJx4a65c_fastRemove_b59b0 17 = .ok (.istore_n 3, 1) := by decide +kernel
theorem dJx4a65c_fastRemove_b59b0_18 : decode cJx4a65c_fastRemove_b59b0 18 = .ok (.iload_n 2, 1) := by decide +kernel
theorem dJx4a65c_fastRemove_b59b0_19 : decode cJx4a65c_fastRemove_b59b0 19 = .ok (.if_icmp .le 15, 3) := by decide +kernel
theorem dJx4a65c_fastRemove_b59b0_22 : decode cJx4a65c_fastRemove_b59b0 22 = .ok (.aload_n 1, 1) := by decide +kernel
theorem dJx4a65c_fastRemove_b59b0_23 : decode cJx4a65c_fastRemove_b59b0 23 = .ok (.iload_n 2, 1) := by decide +kernel
theorem dJx4a65c_fastRemove_b59b0_24 : decode cJx4a65c_fastRemove_b59b0 24 = .ok (.iconst 1, 1) := by decide +kernel
theorem dJx4a65c_fastRemove_b59b0_25 : decode cJx4a65c_fastRemove_b59b0 25 = .ok (.iadd, 1) := by decide +kernel
theorem dJx4a65c_fastRemove_b59b0_26 : decode cJx4a65c_fastRemove_b59b0 26 = .ok (.aload_n 1, 1) := by decide +kernel
theorem dJx4a65c_fastRemove_b59b0_27 : decode cJx4a65c_fastRemove_b59b0 27 = .ok (.iload_n 2, 1) := by decide +kernel
theorem dJx4a65c_fastRemove_b59b0_28 : decode cJx4a65c_fastRemove_b59b0 28 = .ok (.iload_n 3, 1) := by decide +kernel
theorem dJx4a65c_fastRemove_b59b0_29 : decode cJx4a65c_fastRemove_b59b0 29 = .ok (.iload_n 2, 1) := by decide +kernel
theorem dJx4a65c_fastRemove_b59b0_30 : decode cJx4a65c_fastRemove_b59b0 30 = .ok (.isub, 1) := by decide +kernel
theorem dJx4a65c_fastRemove_b59b0_31 : decode cJx4a65c_fastRemove_b59b0 31 = .ok (.invokestatic 112, 3) := by decide +kernel
theorem dJx4a65c_fastRemove_b59b0_34 : decode cJx4a65c_fastRemove_b59b0 34 = .ok (.aload_n 1, 1) := by decide +kernel
theorem dJx4a65c_fastRemove_b59b0_35 : decode cJx4a65c_fastRemove_b59b0 35 = .ok (.aload_n 0, 1) := by decide +kernel
theorem dJx4a65c_fastRemove_b59b0_36 : decode cJx4a65c_fastRemove_b59b0 36 = .ok (.iload_n 3, 1) := by decide +kernel
theorem dJx4a65c_fastRemove_b59b0_37 : decode cJx4a65c_fastRemove_b59b0 37 = .ok (.dup_x1, 1) := by decide +kernel
theorem dJx4a65c_fastRemove_b59b0_38 : decode cJx4a65c_fastRemove_b59b0 38 = .ok (.putfield 48, 3) := by decide +kernel
theorem dJx4a65c_fastRemove_b59b0_41 : decode cJx4a65c_fastRemove_b59b0 41 = .ok (.aconst_null, 1) := by decide +kernel
theorem dJx4a65c_fastRemove_b59b0_42 : decode cJx4a65c_fastRemove_b59b0 42 = .ok (.aastore, 1) := by decide +kernel
theorem dJx4a65c_fastRemove_b59b0_43 : decode cJx4a65c_fastRemove_b59b0 43 = .ok (.return_, 1) := by decide +kernel
theorem k_Jx4a65c_fastRemove_b59b0 : KV RJx4a65c yJx4a65c_fastRemove_b59b0 cJx4a65c_fastRemove_b59b0 4 none 2 := ⟨q1373, qs44, q8, q1374, by decide +kernel⟩
set_option maxHeartbeats 4000000 in
set_option maxRecDepth 100000 in
theorem m_Jx4a65c_fastRemove_b59b0 (l : Launch) (dC : Nat → ClassId) (dI : Nat → Nat → Nat) (cy : Nat → ClassId) (ad : Nat → Nat) (t2 tc a sz : Nat) (e cap : Nat) (mc : Int32) (v : Nat → Nat) (n : Nat) (hc : n + 1 ≤ cap) (h15 : cap ≤ 15) : Met l yJx4a65c_fastRemove_b59b0 (ws_ yJx4a65c_fastRemove_b59b0 cJx4a65c_fastRemove_b59b0 4 none) ({ frames := 0, cells := 0, slots := 0, locals := 0 } : Room) (va_Pc [.ref a, .ref e, .int (nI n)] (PcL dC dI cy t2 tc ad ([(a, .inr (5, [.int mc, .ref e, .int (nI (n + 1))])), (e, .inl (cy 4, cap, .inr (.inr (.inr (.inr (lf ad v (n + 1)))))))]) sz)) (va_Qv (fun (_ : Unit) => True) (fun _ t => va_P (dC, dI) classes ([(a, .inr (5, [.int (mc + 1), .ref e, .int (nI n)])), (e, .inl (cy 4, cap, .inr (.inr (.inr (.inr (lf ad v n))))))]) t.heap ∧ va_D (va_A ([(a, .inr (5, [.int mc, .ref e, .int (nI (n + 1))])), (e, .inl (cy 4, cap, .inr (.inr (.inr (.inr (lf ad v (n + 1)))))))]) sz) ([(a, .inr (5, [.int (mc + 1), .ref e, .int (nI n)])), (e, .inl (cy 4, cap, .inr (.inr (.inr (.inr (lf ad v n))))))])) (va_A ([(a, .inr (5, [.int mc, .ref e, .int (nI (n + 1))])), (e, .inl (cy 4, cap, .inr (.inr (.inr (.inr (lf ad v (n + 1)))))))]) sz)) 0 0 (va_A ([(a, .inr (5, [.int mc, .ref e, .int (nI (n + 1))])), (e, .inl (cy 4, cap, .inr (.inr (.inr (.inr (lf ad v (n + 1)))))))]) sz) := by
  refine Met.ofCx (own := RJx4a65c) (by decide) rfl (Nat.le_of_ble_eq_true rfl) ?_
  intro p e9 s m below meth c hC hv ls hl
  obtain ⟨hx, hb, hr, hml, hown, hts, hlocks⟩ := hC
  have hl : lv_has ls 4 [(0, .ref a), (1, .ref e), (2, .int (nI n))] := hl
  obtain ⟨hsz, hP, hK, hD0, hZ⟩ := hv
  subst hsz
  have hD := hD0.self (sz := s.heap.size)
  generalize hAe : va_A ([(a, .inr (5, [.int mc, .ref e, .int (nI (n + 1))])), (e, .inl (cy 4, cap, .inr (.inr (.inr (.inr (lf ad v (n + 1)))))))]) s.heap.size = A at hD hZ ⊢
  have hA : ∀ q : Nat, s.heap.size ≤ q → A q := fun q h => by rw [← hAe]; exact Or.inr h
  have hS : va_S A s.heap s.heap [] := va_S.rf
  clear hAe
  refine lv_aload_n hx hb dJx4a65c_fastRemove_b59b0_0 rfl (lv_at hl 0 rfl) ?_
  refine lv_dup hx hb dJx4a65c_fastRemove_b59b0_1 rfl ?_
  refine va_get (D := (dC, dI)) (ci := 5) (v := .int mc) (C := RJx4a65c) (T := TJx4a65c) (N := 3) hx hb hts in_Jx4a65c hown hK.1 hP 0 rfl rfl 0 (by decide) (hts _ q916) (u_same (hts _ q915)) rfl dJx4a65c_fastRemove_b59b0_2 ?_
  refine lv_iconst (v := 1) hx hb dJx4a65c_fastRemove_b59b0_5 (by decide) ?_
  refine lv_iadd hx hb dJx4a65c_fastRemove_b59b0_6 ?_
  refine va_put (D := (dC, dI)) (ci := 5) (v := .int (mc + 1)) (ty := .int) (C := RJx4a65c) (T := TJx4a65c) (N := 3) hx hb hts in_Jx4a65c tyJx4a65c tyJx4a65c_ok nmJx4a65c hown hK.1 hP hD hS 0 rfl rfl 0 (by decide) (hts _ q916) (u_same (hts _ q915)) rfl (by decide +kernel) rfl rfl (Nat.le_of_ble_eq_true rfl) dJx4a65c_fastRemove_b59b0_7 (fun H locs hP hD hS => ?_)
  have hP : va_P (dC, dI) classes ([(a, .inr (5, [.int (mc + 1), .ref e, .int (nI (n + 1))])), (e, .inl (cy 4, cap, .inr (.inr (.inr (.inr (lf ad v (n + 1)))))))]) H := hP
  have hD : va_D A ([(a, .inr (5, [.int (mc + 1), .ref e, .int (nI (n + 1))])), (e, .inl (cy 4, cap, .inr (.inr (.inr (.inr (lf ad v (n + 1)))))))]) := hD
  refine lv_aload_n hx hb dJx4a65c_fastRemove_b59b0_10 rfl (lv_at hl 0 rfl) ?_
  refine va_get (D := (dC, dI)) (ci := 5) (v := .int (nI (n + 1))) (C := RJx4a65c) (T := TJx4a65c) (N := 3) hx hb hts in_Jx4a65c hown hK.1 hP 0 rfl rfl 2 (by decide) (hts _ q912) (fun _ h9 => h9) rfl dJx4a65c_fastRemove_b59b0_11 ?_
  refine lv_iconst (v := 1) hx hb dJx4a65c_fastRemove_b59b0_14 (by decide) ?_
  refine lv_isub hx hb dJx4a65c_fastRemove_b59b0_15 ?_
  rw [show ((nI (n + 1)) - 1 : Int32) = nI n from nI_pred n]
  refine lv_dup hx hb dJx4a65c_fastRemove_b59b0_16 rfl ?_
  refine lv_istore_n (lv' := [(3, .int (nI n)), (0, .ref a), (1, .ref e), (2, .int (nI n))]) hx hb dJx4a65c_fastRemove_b59b0_17 rfl hl (by decide) rfl (fun ls hl => ?_)
  refine lv_iload_n hx hb dJx4a65c_fastRemove_b59b0_18 rfl (lv_at hl 3 rfl) ?_
  refine lv_icmp_le (tgt := 34) hx hb dJx4a65c_fastRemove_b59b0_19 (by decide) (fun cz => ?_) (fun cz => absurd ((show nI n ≤ nI n from nI_le (Nat.le_refl _) (by omega))) cz)
  refine lv_aload_n hx hb dJx4a65c_fastRemove_b59b0_34 rfl (lv_at hl 2 rfl) ?_
  refine lv_aload_n hx hb dJx4a65c_fastRemove_b59b0_35 rfl (lv_at hl 1 rfl) ?_
  refine lv_iload_n hx hb dJx4a65c_fastRemove_b59b0_36 rfl (lv_at hl 0 rfl) ?_
  refine lv_dup_x1 hx hb dJx4a65c_fastRemove_b59b0_37 rfl rfl ?_
  refine va_put (D := (dC, dI)) (ci := 5) (v := .int (nI n)) (ty := .int) (C := RJx4a65c) (T := TJx4a65c) (N := 3) hx hb hts in_Jx4a65c tyJx4a65c tyJx4a65c_ok nmJx4a65c hown hK.1 hP hD hS 0 rfl rfl 2 (by decide) (hts _ q912) (fun _ h9 => h9) rfl (by decide +kernel) rfl rfl (Nat.le_of_ble_eq_true rfl) dJx4a65c_fastRemove_b59b0_38 (fun H locs hP hD hS => ?_)
  have hP : va_P (dC, dI) classes ([(a, .inr (5, [.int (mc + 1), .ref e, .int (nI n)])), (e, .inl (cy 4, cap, .inr (.inr (.inr (.inr (lf ad v (n + 1)))))))]) H := hP
  have hD : va_D A ([(a, .inr (5, [.int (mc + 1), .ref e, .int (nI n)])), (e, .inl (cy 4, cap, .inr (.inr (.inr (.inr (lf ad v (n + 1)))))))]) := hD
  refine lv_null hx hb dJx4a65c_fastRemove_b59b0_41 ?_
  refine va_astqN hx hb hK.1 hP hD hS 1 4 rfl rfl (vp_in_nI (by omega) (by omega)) dJx4a65c_fastRemove_b59b0_42 (fun H locs hP hD hS => ?_)
  simp only [List.set] at hP hD
  rw [show va_up (lf ad v (n + 1)) (nI n).toNatClampNeg (none) = lf ad v n from by rw [nI_clamp (by omega)]; exact lf_cut ad v n] at hP hD
  have hP : va_P (dC, dI) classes ([(a, .inr (5, [.int (mc + 1), .ref e, .int (nI n)])), (e, .inl (cy 4, cap, .inr (.inr (.inr (.inr (lf ad v n))))))]) H := hP
  have hD : va_D A ([(a, .inr (5, [.int (mc + 1), .ref e, .int (nI n)])), (e, .inl (cy 4, cap, .inr (.inr (.inr (.inr (lf ad v n))))))]) := hD
  exact W.vret hx hb hr (fun t ht hW => ⟨⟨(), rfl, trivial, by rw [ht]; exact hP, hD⟩, hS.F ht⟩) hS.2.2 dJx4a65c_fastRemove_b59b0_43
theorem dJx4a65c_remove_915e3_0 : decode cJx4a65c_remove_915e3 0 = .ok (.iload_n 1, 1) := by decide +kernel
theorem dJx4a65c_remove_915e3_1 : decode cJx4a65c_remove_915e3 1 = .ok (.aload_n 0, 1) := by decide +kernel
theorem dJx4a65c_remove_915e3_2 : decode cJx4a65c_remove_915e3 2 = .ok (.getfield 48, 3) := by decide +kernel
theorem dJx4a65c_remove_915e3_5 : decode cJx4a65c_remove_915e3 5 = .ok (.invokestatic 118, 3) := by decide +kernel
theorem dJx4a65c_remove_915e3_8 : decode cJx4a65c_remove_915e3 8 = .ok (.pop, 1) := by decide +kernel
theorem dJx4a65c_remove_915e3_9 : decode cJx4a65c_remove_915e3 9 = .ok (.aload_n 0, 1) := by decide +kernel
theorem dJx4a65c_remove_915e3_10 : decode cJx4a65c_remove_915e3 10 = .ok (.getfield 9, 3) := by decide +kernel
theorem dJx4a65c_remove_915e3_13 : decode cJx4a65c_remove_915e3 13 = .ok (.astore_n 2, 1) := by decide +kernel
theorem dJx4a65c_remove_915e3_14 : decode cJx4a65c_remove_915e3 14 = .ok (.aload_n 2, 1) := by decide +kernel
theorem dJx4a65c_remove_915e3_15 : decode cJx4a65c_remove_915e3 15 = .ok (.iload_n 1, 1) := by decide +kernel
theorem dJx4a65c_remove_915e3_16 : decode cJx4a65c_remove_915e3 16 = .ok (.aaload, 1) := by decide +kernel
theorem dJx4a65c_remove_915e3_17 : decode cJx4a65c_remove_915e3 17 = .ok (.astore_n 3, 1) := by decide +kernel
theorem dJx4a65c_remove_915e3_18 : decode cJx4a65c_remove_915e3 18 = .ok (.aload_n 0, 1) := by decide +kernel
theorem dJx4a65c_remove_915e3_19 : decode cJx4a65c_remove_915e3 19 = .ok (.aload_n 2, 1) := by decide +kernel
theorem dJx4a65c_remove_915e3_20 : decode cJx4a65c_remove_915e3 20 = .ok (.iload_n 1, 1) := by decide +kernel
theorem dJx4a65c_remove_915e3_21 : decode cJx4a65c_remove_915e3 21 = .ok (.invokevirtual 144, 3) := by decide +kernel
theorem dJx4a65c_remove_915e3_24 : decode cJx4a65c_remove_915e3 24 = .ok (.aload_n 3, 1) := by decide +kernel
theorem dJx4a65c_remove_915e3_25 : decode cJx4a65c_remove_915e3 25 = .ok (.areturn, 1) := by decide +kernel
theorem k_Jx4a65c_remove_915e3 : KF RJx4a65c ⟨"java/util/List", "remove", "(I)Ljava/lang/Object;"⟩ yJx4a65c_remove_915e3 cJx4a65c_remove_915e3 4 (some (.object "java/lang/Object")) 1 := ⟨q1362, q1364, q8, q1366, by decide +kernel⟩
set_option maxHeartbeats 4000000 in
set_option maxRecDepth 100000 in
theorem m_Jx4a65c_remove_915e3 (l : Launch) (dC : Nat → ClassId) (dI : Nat → Nat → Nat) (cy : Nat → ClassId) (ad : Nat → Nat) (t2 tc a sz : Nat) (e cap : Nat) (mc : Int32) (v : Nat → Nat) (n : Nat) (hc : n + 1 ≤ cap) (h15 : cap ≤ 15) : Met l yJx4a65c_remove_915e3 (ws_ yJx4a65c_remove_915e3 cJx4a65c_remove_915e3 4 (some (.object "java/lang/Object"))) ({ frames := 2, cells := 0, slots := 0, locals := 45 } : Room) (va_Pc [.ref a, .int (nI n)] (PcL dC dI cy t2 tc ad ([(a, .inr (5, [.int mc, .ref e, .int (nI (n + 1))])), (e, .inl (cy 4, cap, .inr (.inr (.inr (.inr (lf ad v (n + 1)))))))]) sz)) (va_Qr (fun _ : Unit => True) (fun _ q t => q = ad (v n + 128) ∧ va_P (dC, dI) classes ([(a, .inr (5, [.int (mc + 1), .ref e, .int (nI n)])), (e, .inl (cy 4, cap, .inr (.inr (.inr (.inr (lf ad v n))))))]) t.heap ∧ va_D (va_A ([(a, .inr (5, [.int mc, .ref e, .int (nI (n + 1))])), (e, .inl (cy 4, cap, .inr (.inr (.inr (.inr (lf ad v (n + 1)))))))]) sz) ([(a, .inr (5, [.int (mc + 1), .ref e, .int (nI n)])), (e, .inl (cy 4, cap, .inr (.inr (.inr (.inr (lf ad v n))))))])) (va_A ([(a, .inr (5, [.int mc, .ref e, .int (nI (n + 1))])), (e, .inl (cy 4, cap, .inr (.inr (.inr (.inr (lf ad v (n + 1)))))))]) sz)) 0 0 (va_A ([(a, .inr (5, [.int mc, .ref e, .int (nI (n + 1))])), (e, .inl (cy 4, cap, .inr (.inr (.inr (.inr (lf ad v (n + 1)))))))]) sz) := by
  refine Met.ofCx (own := RJx4a65c) (by decide) rfl (Nat.le_of_ble_eq_true rfl) ?_
  intro p e9 s m below meth c hC hv ls hl
  obtain ⟨hx, hb, hr, hml, hown, hts, hlocks⟩ := hC
  have hl : lv_has ls 4 [(0, .ref a), (1, .int (nI n))] := hl
  obtain ⟨hsz, hP, hK, hD0, hZ⟩ := hv
  subst hsz
  have hD := hD0.self (sz := s.heap.size)
  generalize hAe : va_A ([(a, .inr (5, [.int mc, .ref e, .int (nI (n + 1))])), (e, .inl (cy 4, cap, .inr (.inr (.inr (.inr (lf ad v (n + 1)))))))]) s.heap.size = A at hD hZ ⊢
  have hA : ∀ q : Nat, s.heap.size ≤ q → A q := fun q h => by rw [← hAe]; exact Or.inr h
  have hS : va_S A s.heap s.heap [] := va_S.rf
  clear hAe
  refine lv_iload_n hx hb dJx4a65c_remove_915e3_0 rfl (lv_at hl 1 rfl) ?_
  refine lv_aload_n hx hb dJx4a65c_remove_915e3_1 rfl (lv_at hl 0 rfl) ?_
  refine va_get (D := (dC, dI)) (ci := 5) (v := .int (nI (n + 1))) (C := RJx4a65c) (T := TJx4a65c) (N := 3) hx hb hts in_Jx4a65c hown hK.1 hP 0 rfl rfl 2 (by decide) (hts _ q912) (fun _ h9 => h9) rfl dJx4a65c_remove_915e3_2 ?_
  refine cpSi (As := [.int (nI n), .int (nI (n + 1))]) (rest := []) ⟨hx, hb, hr, hml, hown, hts, hlocks⟩ (m_J15_checkIndex_7cf53 l (nI n) (nI (n + 1)) (nI_pos (by omega)) (nI_lt (Nat.lt_succ_self n) (by omega))) k_J15_checkIndex_7cf53 q1367 ⟨rfl, rfl⟩ ⟨Nat.le_of_ble_eq_true rfl, Nat.le_of_ble_eq_true rfl⟩ hl.1 rfl rfl (Nat.le_of_ble_eq_true rfl) dJx4a65c_remove_915e3_5 ⟨Nat.le_of_ble_eq_true rfl, Nat.le_of_ble_eq_true rfl⟩ (fun r hr9 => ?_)
  rw [hr9]
  refine lv_pop hx hb dJx4a65c_remove_915e3_8 rfl ?_
  refine lv_aload_n hx hb dJx4a65c_remove_915e3_9 rfl (lv_at hl 0 rfl) ?_
  refine va_get (D := (dC, dI)) (ci := 5) (v := .ref e) (C := RJx4a65c) (T := TJx4a65c) (N := 3) hx hb hts in_Jx4a65c hown hK.1 hP 0 rfl rfl 1 (by decide) (hts _ q909) (fun _ h9 => h9) rfl dJx4a65c_remove_915e3_10 ?_
  refine lv_astore_n (lv' := [(2, .ref e), (0, .ref a), (1, .int (nI n))]) hx hb dJx4a65c_remove_915e3_13 rfl hl (by decide) rfl (fun ls hl => ?_)
  refine lv_aload_n hx hb dJx4a65c_remove_915e3_14 rfl (lv_at hl 0 rfl) ?_
  refine lv_iload_n hx hb dJx4a65c_remove_915e3_15 rfl (lv_at hl 2 rfl) ?_
  refine va_aldq hx hb hK.1 hP 1 4 rfl rfl (vp_in_nI (by omega) (by omega)) dJx4a65c_remove_915e3_16 ?_
  rw [show (lf ad v (n + 1)) (nI n).toNatClampNeg = some (ad (v n + 128)) from by rw [nI_clamp (by omega)]; exact lf_at (Nat.lt_succ_self n)]
  refine W.eq (g2 := F0 m 17 ls [.ref (ad (v n + 128))]) rfl ?_
  refine lv_astore_n (lv' := [(3, .ref (ad (v n + 128))), (2, .ref e), (0, .ref a), (1, .int (nI n))]) hx hb dJx4a65c_remove_915e3_17 rfl hl (by decide) rfl (fun ls hl => ?_)
  refine lv_aload_n hx hb dJx4a65c_remove_915e3_18 rfl (lv_at hl 2 rfl) ?_
  refine lv_aload_n hx hb dJx4a65c_remove_915e3_19 rfl (lv_at hl 1 rfl) ?_
  refine lv_iload_n hx hb dJx4a65c_remove_915e3_20 rfl (lv_at hl 3 rfl) ?_
  have hPc := hP.sub (ws' := [(a, .inr (5, [.int mc, .ref e, .int (nI (n + 1))])), (e, .inl (cy 4, cap, .inr (.inr (.inr (.inr (lf ad v (n + 1)))))))]) [0, 1] rfl
  have hDc := hD.sub (ws' := [(a, .inr (5, [.int mc, .ref e, .int (nI (n + 1))])), (e, .inl (cy 4, cap, .inr (.inr (.inr (.inr (lf ad v (n + 1)))))))]) [0, 1] (by decide) rfl
  have hFc := va_free (wc := [(a, .inr (5, [.int mc, .ref e, .int (nI (n + 1))])), (e, .inl (cy 4, cap, .inr (.inr (.inr (.inr (lf ad v (n + 1)))))))]) hD hS hA [0, 1] rfl
  refine va_callv (va_runV (As := [.ref e, .int (nI n)]) (rest := []) ⟨hx, hb, hml, hown, hts⟩ (m_Jx4a65c_fastRemove_b59b0 l dC dI cy ad t2 tc a _ e cap mc v n hc h15) (cbV hts k_Jx4a65c_fastRemove_b59b0 q1371 ⟨rfl, rfl⟩ ⟨Nat.le_of_ble_eq_true rfl, Nat.le_of_ble_eq_true rfl⟩) (preL 0 hK hPc hDc rfl rfl hZ hS hFc) rfl rfl hl.1 rfl (lv_room (Nat.le_of_ble_eq_true rfl)) dJx4a65c_remove_915e3_21 ⟨Nat.le_of_ble_eq_true rfl, Nat.le_of_ble_eq_true rfl⟩) hS (fun q _ h => hFc q h) hFc (fun u t H1 locs ht hvm hw hB hz1 hk1 hS => ?_)
  obtain ⟨hP1, hD1⟩ := hB
  rw [ht] at hP1
  obtain ⟨hP, hD⟩ := va_join (wr := []) (w1 := [(a, .inr (5, [.int (mc + 1), .ref e, .int (nI n)])), (e, .inl (cy 4, cap, .inr (.inr (.inr (.inr (lf ad v n))))))]) hP hD [0, 1] [] rfl rfl (by decide) (by decide) hk1 hFc hP1 hD1
  generalize H1 = H at hP hS ⊢
  have hP : va_P (dC, dI) classes ([(a, .inr (5, [.int (mc + 1), .ref e, .int (nI n)])), (e, .inl (cy 4, cap, .inr (.inr (.inr (.inr (lf ad v n))))))]) H := hP
  have hD : va_D A ([(a, .inr (5, [.int (mc + 1), .ref e, .int (nI n)])), (e, .inl (cy 4, cap, .inr (.inr (.inr (.inr (lf ad v n))))))]) := hD
  refine lv_aload_n hx hb dJx4a65c_remove_915e3_24 rfl (lv_at hl 0 rfl) ?_
  exact W.aret (v := .ref (ad (v n + 128))) hx hb hr (Or.inl ⟨_, rfl⟩) (Or.inr ⟨_, rfl⟩) (fun t ht hW => ⟨⟨(), _, rfl, trivial, rfl, by rw [ht]; exact hP, hD⟩, hS.F ht⟩) hS.2.2 dJx4a65c_remove_915e3_25
