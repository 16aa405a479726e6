-- LEVEL 3, part 57: the reference reads a pact; the call pact on both sides
def mtP (s : pS) : Pc := (s.1, (fun r => s.2.1.any (fun x => !decide (x r = 0))), s.2.2.1, s.2.2.2)
theorem any_no {fs : List Ex} {r : Fx} : fs.any (fun x => !decide (x r = 0)) = false ↔ ∀ x, x ∈ fs → x r = 0 := by
  rw [List.any_eq_false]
  constructor
  · intro h x hx
    have := h x hx
    simpa using this
  · intro h x hx
    have := h x hx
    simp [this]
theorem pcC_mt {L : Lay} {M : Mem} {a m : Nat} {s : pS} (hm : m ≤ 1000) (h : pcS L M a m s) : pacC L M a (mtP s) := by
  obtain ⟨y1, y2, y3, y4, y5, y6, y7, y8, y9, y10⟩ := h
  have ln : ∀ {o : Option Nat} {e : Option Ex}, lnC L M o e → lineC L M o e := fun {o e} q => by
    rcases q with q | ⟨b, n, x, h1, h2, h3, h4, h5, h6⟩
    · exact Or.inl q
    · exact Or.inr ⟨b, n, x, h1, h2, h3, by omega, h5, fun r u => by unfold rcF; rw [h6 r]⟩
  refine ⟨y1, y2, ln y3, ln y4, ln y5, ?_, y9, y10⟩
  rcases y6 with ⟨q1, q2⟩ | ⟨b, n, y, h1, h2, h3, h4, h5, h6, h7⟩
  · refine Or.inl ⟨q1, fun r => ?_⟩
    show s.2.1.any _ = false
    rw [q2]; rfl
  · refine Or.inr ⟨b, n, h1, h2, h3, by omega, fun r u => ?_⟩
    show _ ↔ s.2.1.any (fun x => !decide (x r = 0)) = false
    rw [any_no, ← h7 r]
    unfold rcF
    rw [h6 r]
theorem pmS_mt {M : Mem} {n : Nat} {s : pS} (hn : n ≤ 1000) (h : pmS M n s) : pacM M 25 (mtP s) ∧ (s.2.2.2 = -1 ∨ ¬ s.2.2.2 < 0) := by
  obtain ⟨top, q1, q2, q3, q4, q5, q6, ⟨xs, q7, q8⟩, q9, qa, qb⟩ := h
  have ln : ∀ k e, lnM M top k e → lineM M 25 k e := fun k e q => by
    rcases q with q | ⟨a, m, x, h1, h2, h3, h4, h5, h6⟩
    · exact Or.inl q
    · exact Or.inr ⟨a, m, x, h1, h2, by omega, by omega, h5, h6⟩
  refine ⟨⟨ln 0 _ (q4 0 (by decide)), ln 1 _ (q4 1 (by decide)), ln 2 _ (q4 2 (by decide)), ⟨s.2.1.length, xs, q6, q5, fun k hk => ln _ _ (q8 k hk), fun r => ?_⟩, q9, qa⟩, qb⟩
  show s.2.1.any (fun x => !decide (x r = 0)) = true ↔ _
  rw [List.any_eq_true]
  constructor
  · rintro ⟨x, hx, h⟩
    rw [q7] at hx
    obtain ⟨k, hk, e⟩ := List.mem_map.mp hx
    refine ⟨k, List.mem_range.mp hk, ?_⟩
    rw [e]; simpa using h
  · rintro ⟨k, hk, h⟩
    refine ⟨xs k, ?_, by simpa using h⟩
    rw [q7]
    exact List.mem_map.mpr ⟨k, List.mem_range.mpr hk, rfl⟩
def PMq (a k : Nat) : Prop := PMp a k ∨ (a = 92 ∧ (k = 0 ∨ k = 42 ∨ k = 44))
def prM (M : Mem) (R : (Nat × Nat) ⊕ pS) (x : Int32) (M' : Mem) : Prop := mi M' 92 42 = 0 ∧
  ((∃ k p, R = .inl (k, p) ∧ x = nI (k + 16 * p) ∧ FLg PMq M M') ∨ ∃ s, R = .inr s ∧ x = 0 ∧ FLg (fun a k => PMq a k ∨ slM 24 a k ∨ (a = 101 ∧ k = 0)) M M' ∧ mi M' 101 0 = 1 ∧ pacM M' 24 (mtP s) ∧ (s.2.2.2 = -1 ∨ ¬ s.2.2.2 < 0))
section PCM
variable {L : Lay} {M : Mem}
theorem m_rpact {T : Nat → Nat} {n : Nat} {Q : Int32 → Mem → Prop} (hT : okT T n) (h42 : mi M 92 42 = nI n) (h129 : ∀ i, i < n → mi M 129 i = nI (T i)) (hQ : ∀ x M', prM M (pcR T n (n + 1) (tkB T n 0) ps0) x M' → Q x M') : w_X12_pact L M Q := by
  have hn := hT.1
  unfold w_X12_pact
  intro M1 e1 M2 e2 M3 e3
  have F3 : FLg PMq M M3 := by rw [e3, e2, e1]; exact ((FLg.rf.si (by unfold PMq; omega)).si (by unfold PMq; omega)).si (by unfold PMq; omega)
  have k42 : mi M3 92 42 = 0 := by rw [e3, mi_si, if_pos ⟨rfl, rfl⟩]
  have k44 : mi M3 92 44 = nI n := by rw [e3, mi_si, if_neg (by omega), e2, mi_si, if_pos ⟨rfl, rfl⟩, e1, mi_si, if_neg (by omega)]; exact h42
  have r3 : rdM M3 T n := ⟨k44, fun i hi => by rw [F3.1 _ _ (by unfold PMq PMp; omega)]; exact h129 i hi⟩
  have r42 : ∀ {M5 M6 : Mem}, FLg PMp M5 M6 → mi M6 92 42 = mi M5 92 42 := fun F => F.1 _ _ (by unfold PMp; omega)
  refine LP2_c0 0 11 (fun i M' => FLg PMp M3 M' ∧ ∀ k, k < i → mi M' 130 (275 + k) = -1) rfl (Nat.zero_le _) ⟨FLg.rf, fun k hk => absurd hk (by omega)⟩ ?_
  intro i M4 hi _ ⟨F4, h4⟩ K hK
  unfold w_X12_pact_20
  rw [show (11 : Int32) = nI 11 from rfl, nI_lt' (by omega) (by omega), show (275 : Int32) = nI 275 from rfl, nI_add, tn_nI (n := 275 + i) (by omega)]
  refine ⟨fun hlt => ⟨vp_in_nI (by omega) (by decide), fun M5 e5 x hx => ?_⟩, fun hge M5 e5 M6 e6 M7 e7 M8 e8 M9 e9 => ?_⟩
  · rw [hx, nI_1]
    refine hK hlt M5 ⟨by rw [e5]; exact F4.si (by unfold PMp; omega), fun k hk => ?_⟩
    rw [e5, mi_si]
    by_cases c : k = i
    · rw [if_pos ⟨rfl, by omega⟩]
    · rw [if_neg (by omega)]; exact h4 k (by omega)
  · have ei : i = 11 := by omega
    subst ei
    have F9 : FLg PMp M3 M9 := by rw [e9, e8, e7, e6, e5]; exact ((((F4.si (by unfold PMp; omega)).si (by unfold PMp; omega)).si (by unfold PMp; omega)).si (by unfold PMp; omega)).si (by unfold PMp; omega)
    have r9 : rdM M9 T n := rdM_cg r3 (F9.1 _ _ (by unfold PMp; omega)) (fun i => F9.1 _ _ (by unfold PMp; omega))
    refine m_next5 (e := 0) hT r9 (by rw [e9, mi_si, if_pos ⟨rfl, rfl⟩]; rfl) (Nat.zero_le _) (fun M10 t10 F10 => ?_)
    have jm : ∀ a k, PJ a k → PMp a k := fun a k z => by unfold PJ at z; unfold PMp; omega
    have b0 := (tk_rng (T := T) (n := n) (e := 0) (Nat.zero_le _)).2.1
    have r10 : rdM M10 T n := rdM_cg r9 (F10.1 _ _ (by unfold PJ; omega)) (fun i => F10.1 _ _ (by unfold PJ; omega))
    have G10 : FLg PMp M3 M10 := F9.tr (F10.mono jm)
    have j9 : ∀ a k, a = 130 → mi M9 a k = mi M4 a k := fun a k q => by
      rw [e9, mi_si, if_neg (by omega), e8, mi_si, if_neg (by omega), e7, mi_si, if_neg (by omega), e6, mi_si, if_neg (by omega), e5, mi_si, if_neg (by omega)]
    have h10 : pmS M10 (tkB T n 0) ps0 := by
      refine ⟨25000, ?_, Nat.le_refl _, by omega, fun k hk => Or.inl ⟨?_, rfl⟩, ?_, by decide, ⟨fun _ _ => 0, rfl, fun k hk => absurd hk (Nat.not_lt_zero _)⟩, ?_, ?_, Or.inl rfl⟩
      · rw [F10.1 _ _ (by unfold PJ; omega), e9, mi_si, if_neg (by omega), e8, mi_si, if_pos ⟨rfl, rfl⟩]; rfl
      · rw [F10.1 _ _ (by unfold PJ; omega), j9 _ _ rfl, h4 k (by omega)]; decide
      · rw [F10.1 _ _ (by unfold PJ; omega), e9, mi_si, if_neg (by omega), e8, mi_si, if_neg (by omega), e7, mi_si, if_neg (by omega), e6, mi_si, if_neg (by omega), e5, mi_si, if_pos ⟨rfl, rfl⟩]; rfl
      · rw [F10.1 _ _ (by unfold PJ; omega), e9, mi_si, if_neg (by omega), e8, mi_si, if_neg (by omega), e7, mi_si, if_neg (by omega), e6, mi_si, if_pos ⟨rfl, rfl⟩]
        exact Or.inr (Or.inr (Or.inr ⟨rfl, rfl⟩))
      · rw [F10.1 _ _ (by unfold PJ; omega), e9, mi_si, if_neg (by omega), e8, mi_si, if_neg (by omega), e7, mi_si, if_pos ⟨rfl, rfl⟩]; rfl
    generalize hR : pcR T n (n + 1) (tkB T n 0) ps0 = R at *
    refine LP1_m (fun m M' => ∃ b f s, m = f ∧ b ≤ n ∧ n < b + f ∧ R = pcR T n f b s ∧ rdM M' T n ∧ rtM M' T n b ∧ pmS M' b s ∧ FLg PMp M3 M') (n + 1) ⟨tkB T n 0, n + 1, ps0, rfl, b0, by omega, hR.symm, r10, t10, h10, G10⟩ ?_
    intro m M11 ⟨b, f, s, em, bn, nf, hx, g1, g2, g3, G⟩ K2 hK2
    subst em
    obtain ⟨f', rfl⟩ : ∃ f', m = f' + 1 := ⟨m - 1, by omega⟩
    rw [pcR_s] at hx
    have tc := tk_code (T := T) (n := n) (b := b) hT
    have f0 := tm_0 g2.2.2
    have GG : FLg PMq M M11 := F3.tr (G.mono (fun a k z => Or.inl z))
    unfold w_X12_pact_83
    refine ⟨fun z => ?_, fun z => ?_⟩
    · rw [if_pos (f0.mp z)] at hx
      obtain ⟨p25, pb⟩ := pmS_mt (by omega) g3
      refine m_copies (p := 25) (q := 24) (by decide) (by decide) (by decide) (fun M12 hc F12 M13 e13 => ?_)
      have p24 := pacM_cp (by decide) hc p25
      refine hQ 0 M13 ⟨?_, Or.inr ⟨s, hx, rfl, ?_, by rw [e13, mi_si, if_pos ⟨rfl, rfl⟩], ?_, pb⟩⟩
      · rw [e13, mi_si, if_neg (by omega), F12.1 _ _ (by unfold slM; omega), r42 G]; exact k42
      · rw [e13]
        exact ((GG.mono (fun a k q => Or.inl q)).tr (F12.flg.mono (fun a k q => Or.inr (Or.inl q)))).si (Or.inr (Or.inr ⟨rfl, rfl⟩))
      · exact pacM_cg (fun a j q => by rw [e13, mi_si, if_neg (by unfold slM at q; omega)]) p24
    · rw [if_neg (fun w => z (f0.mpr w))] at hx
      have bl : b < n := by
        by_cases y : b < n
        · exact y
        · exact absurd (f0.mpr (tc.2.1.mpr y)) z
      refine m_pline hT bl g1 g2 g3 (fun x M12 hl => ?_)
      obtain ⟨F12, ⟨k, p, y1, y2, y3⟩ | ⟨b', s', y1, y2, y3, y4, y5, y6, y7⟩⟩ := hl
      · rw [y1] at hx
        rw [y2, y3]
        refine ⟨fun _ => hQ _ M12 ⟨by rw [r42 (G.tr F12)]; exact k42, Or.inl ⟨k, p, hx, rfl, GG.tr (F12.mono (fun a k z => Or.inl z))⟩⟩, fun w => absurd rfl w⟩
      · rw [y1] at hx
        rw [y2]
        exact ⟨fun w => absurd w (by decide), fun _ => hK2 f' (by omega) M12 ⟨b', f', s', rfl, y4, by omega, hx, y5, y6, y7, G.tr F12⟩⟩
end PCM
