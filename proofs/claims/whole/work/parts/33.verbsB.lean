/-! house -/
def hsV (V : Vw) (a : Nat) : Nat → Int32
  | 0 => V 1 a
  | 1 => V 2 a
  | 2 => V 3 a
  | 3 => sellV V a
  | 4 => buyV V a
  | 5 => V 4 a
  | 6 => V 5 a
  | 7 => V 6 a
  | 8 => V 7 a
  | _ => V 8 a
theorem gF_hh {S : Mm} {L k : Nat} (hH : HsZ S.2 L) (hk : k < 6) : ∀ j, gF S (hrf S.2 L k) j = some (mI S (hrf S.2 L k) j) := fun j => gF_h hH hk
theorem st_2 {j : Nat} {S : Mm} (hI : Inv j S) (x y : Int32) : ∃ S', ls_2 0 33 S x y = some S' ∧ Inv (j + 1) S' := by
  unfold ls_2
  have hS := hI.1
  have hv := hI.2.2.1
  have hH := hI.2.1.1
  obtain ⟨⟨n, hB⟩, ⟨w, w1, w2⟩, ⟨m, m1, m2⟩⟩ := hI.2.2.2.1
  have hM := hS.m
  have h6 := hB.le
  have eM := m15_mV S
  have hMk : ∀ k, ModZ (rfC S k).2 := fun k => hS.m
  have eMk : ∀ k, mV (m15 (rfC S k)) = mV S := fun k => by rw [m15_mV, rfC_mV]
  have hz : mV (m15 S) 0 0 = nI n := by rw [eM]; exact hB.sz
  have hzk : ∀ k, mV (m15 (rfC S k)) 0 0 = nI n := fun k => by rw [eMk]; exact hB.sz
  have qt : Inv (j + 1) (m15 S) := hI.qt (cs := [33]) (ws := []) (Gx.ag (Ag.m15 (by simp))) (by simp) (by unfold Fre; decide) (by decide) rfl rfl rfl hI.2.1.2.1 eM
  have ref : ∀ (k : Nat) (c : Int32), k < 7 → f_X11_house S 0 x y = some (c, rfC S k) → f_X12_house (rfC S k) 33 x y = some (c, rfM (m15 (rfC S k)) k) → ∃ S', ((f_X11_house S 0 x y).bind fun q => (f_X12_house q.2 33 x y).bind fun r => if q.1 = r.1 then some r.2 else none) = some S' ∧ Inv (j + 1) S' := fun k c hk h1 h2 => ⟨_, two (g := fun T => f_X12_house T 33 x y) h1 h2, hI.rf hk⟩
  by_cases hh : hasV (mV S) x = true
  · obtain ⟨a, a1, rfl⟩ := hasV_n hB.sz hB.le hh
    have ha : a < 6 := by omega
    by_cases y0 : y = 0
    · subst y0
      refine ⟨_, two (g := fun T => f_X12_house T 33 (nI a) 0) (v := hsV (mV S) a 0) (S1 := S) (S2 := m15 S) ?_ ?_, qt⟩
      · simp only [f_X11_house, hS.o S rfl, if_true, hS.g0 S rfl, X6_hasHouse' hS.l1, hv, hh, b2i_t, Option.bind_some, hS.l1.g0 S rfl, hS.l1.hr hH ha, dyK (okF_h hH ha), dyS (okF_h hH ha), dyB (okF_h hH ha), gF_hh hH ha, lv1 (L := 1) ha, lv2 (L := 1) ha, lv3 (L := 1) ha, lv4 (L := 1) ha, lv5 (L := 1) ha, lv6 (L := 1) ha, lv7 (L := 1) ha, hS.l1.g2 S rfl, hS.l1.A2.ld S a rfl ha, lv8 (L := 1) ha]
        rfl
      · simp only [f_X12_house, hM.o _ rfl, if_true, hM.q, Option.bind_some, X12_isHouse hM.u hz h6, eM, hh, b2i_t, hM.u.g4 _ rfl, hM.u.a34.ld _ a rfl ha, mv1 ha, hM.u.g5 _ rfl, hM.u.a35.ld _ a rfl ha, mv2 ha, hM.u.g6 _ rfl, hM.u.a36.ld _ a rfl ha, mv3 ha, hM.u.g7 _ rfl, hM.u.a37.ld _ a rfl ha, mv4 ha, hM.u.g8 _ rfl, hM.u.a38.ld _ a rfl ha, mv5 ha, hM.u.g9 _ rfl, hM.u.a39.ld _ a rfl ha, mv6 ha, hM.u.g10 _ rfl, hM.u.a40.ld _ a rfl ha, mv7 ha, hM.u.g11 _ rfl, hM.u.a41.ld _ a rfl ha, mv8 ha, X12_sellsAt hM.u ha, X12_buysAt hM.u ha]
        rfl
    by_cases y1 : y = 1
    · subst y1
      refine ⟨_, two (g := fun T => f_X12_house T 33 (nI a) 1) (v := hsV (mV S) a 1) (S1 := S) (S2 := m15 S) ?_ ?_, qt⟩
      · simp only [f_X11_house, hS.o S rfl, if_true, hS.g0 S rfl, X6_hasHouse' hS.l1, hv, hh, b2i_t, Option.bind_some, hS.l1.g0 S rfl, hS.l1.hr hH ha, dyK (okF_h hH ha), dyS (okF_h hH ha), dyB (okF_h hH ha), gF_hh hH ha, lv1 (L := 1) ha, lv2 (L := 1) ha, lv3 (L := 1) ha, lv4 (L := 1) ha, lv5 (L := 1) ha, lv6 (L := 1) ha, lv7 (L := 1) ha, hS.l1.g2 S rfl, hS.l1.A2.ld S a rfl ha, lv8 (L := 1) ha]
        rfl
      · simp only [f_X12_house, hM.o _ rfl, if_true, hM.q, Option.bind_some, X12_isHouse hM.u hz h6, eM, hh, b2i_t, hM.u.g4 _ rfl, hM.u.a34.ld _ a rfl ha, mv1 ha, hM.u.g5 _ rfl, hM.u.a35.ld _ a rfl ha, mv2 ha, hM.u.g6 _ rfl, hM.u.a36.ld _ a rfl ha, mv3 ha, hM.u.g7 _ rfl, hM.u.a37.ld _ a rfl ha, mv4 ha, hM.u.g8 _ rfl, hM.u.a38.ld _ a rfl ha, mv5 ha, hM.u.g9 _ rfl, hM.u.a39.ld _ a rfl ha, mv6 ha, hM.u.g10 _ rfl, hM.u.a40.ld _ a rfl ha, mv7 ha, hM.u.g11 _ rfl, hM.u.a41.ld _ a rfl ha, mv8 ha, X12_sellsAt hM.u ha, X12_buysAt hM.u ha]
        rfl
    by_cases y2 : y = 2
    · subst y2
      refine ⟨_, two (g := fun T => f_X12_house T 33 (nI a) 2) (v := hsV (mV S) a 2) (S1 := S) (S2 := m15 S) ?_ ?_, qt⟩
      · simp only [f_X11_house, hS.o S rfl, if_true, hS.g0 S rfl, X6_hasHouse' hS.l1, hv, hh, b2i_t, Option.bind_some, hS.l1.g0 S rfl, hS.l1.hr hH ha, dyK (okF_h hH ha), dyS (okF_h hH ha), dyB (okF_h hH ha), gF_hh hH ha, lv1 (L := 1) ha, lv2 (L := 1) ha, lv3 (L := 1) ha, lv4 (L := 1) ha, lv5 (L := 1) ha, lv6 (L := 1) ha, lv7 (L := 1) ha, hS.l1.g2 S rfl, hS.l1.A2.ld S a rfl ha, lv8 (L := 1) ha]
        rfl
      · simp only [f_X12_house, hM.o _ rfl, if_true, hM.q, Option.bind_some, X12_isHouse hM.u hz h6, eM, hh, b2i_t, hM.u.g4 _ rfl, hM.u.a34.ld _ a rfl ha, mv1 ha, hM.u.g5 _ rfl, hM.u.a35.ld _ a rfl ha, mv2 ha, hM.u.g6 _ rfl, hM.u.a36.ld _ a rfl ha, mv3 ha, hM.u.g7 _ rfl, hM.u.a37.ld _ a rfl ha, mv4 ha, hM.u.g8 _ rfl, hM.u.a38.ld _ a rfl ha, mv5 ha, hM.u.g9 _ rfl, hM.u.a39.ld _ a rfl ha, mv6 ha, hM.u.g10 _ rfl, hM.u.a40.ld _ a rfl ha, mv7 ha, hM.u.g11 _ rfl, hM.u.a41.ld _ a rfl ha, mv8 ha, X12_sellsAt hM.u ha, X12_buysAt hM.u ha]
        rfl
    by_cases y3 : y = 3
    · subst y3
      refine ⟨_, two (g := fun T => f_X12_house T 33 (nI a) 3) (v := hsV (mV S) a 3) (S1 := S) (S2 := m15 S) ?_ ?_, qt⟩
      · simp only [f_X11_house, hS.o S rfl, if_true, hS.g0 S rfl, X6_hasHouse' hS.l1, hv, hh, b2i_t, Option.bind_some, hS.l1.g0 S rfl, hS.l1.hr hH ha, dyK (okF_h hH ha), dyS (okF_h hH ha), dyB (okF_h hH ha), gF_hh hH ha, lv1 (L := 1) ha, lv2 (L := 1) ha, lv3 (L := 1) ha, lv4 (L := 1) ha, lv5 (L := 1) ha, lv6 (L := 1) ha, lv7 (L := 1) ha, hS.l1.g2 S rfl, hS.l1.A2.ld S a rfl ha, lv8 (L := 1) ha]
        rfl
      · simp only [f_X12_house, hM.o _ rfl, if_true, hM.q, Option.bind_some, X12_isHouse hM.u hz h6, eM, hh, b2i_t, hM.u.g4 _ rfl, hM.u.a34.ld _ a rfl ha, mv1 ha, hM.u.g5 _ rfl, hM.u.a35.ld _ a rfl ha, mv2 ha, hM.u.g6 _ rfl, hM.u.a36.ld _ a rfl ha, mv3 ha, hM.u.g7 _ rfl, hM.u.a37.ld _ a rfl ha, mv4 ha, hM.u.g8 _ rfl, hM.u.a38.ld _ a rfl ha, mv5 ha, hM.u.g9 _ rfl, hM.u.a39.ld _ a rfl ha, mv6 ha, hM.u.g10 _ rfl, hM.u.a40.ld _ a rfl ha, mv7 ha, hM.u.g11 _ rfl, hM.u.a41.ld _ a rfl ha, mv8 ha, X12_sellsAt hM.u ha, X12_buysAt hM.u ha]
        rfl
    by_cases y4 : y = 4
    · subst y4
      refine ⟨_, two (g := fun T => f_X12_house T 33 (nI a) 4) (v := hsV (mV S) a 4) (S1 := S) (S2 := m15 S) ?_ ?_, qt⟩
      · simp only [f_X11_house, hS.o S rfl, if_true, hS.g0 S rfl, X6_hasHouse' hS.l1, hv, hh, b2i_t, Option.bind_some, hS.l1.g0 S rfl, hS.l1.hr hH ha, dyK (okF_h hH ha), dyS (okF_h hH ha), dyB (okF_h hH ha), gF_hh hH ha, lv1 (L := 1) ha, lv2 (L := 1) ha, lv3 (L := 1) ha, lv4 (L := 1) ha, lv5 (L := 1) ha, lv6 (L := 1) ha, lv7 (L := 1) ha, hS.l1.g2 S rfl, hS.l1.A2.ld S a rfl ha, lv8 (L := 1) ha]
        rfl
      · simp only [f_X12_house, hM.o _ rfl, if_true, hM.q, Option.bind_some, X12_isHouse hM.u hz h6, eM, hh, b2i_t, hM.u.g4 _ rfl, hM.u.a34.ld _ a rfl ha, mv1 ha, hM.u.g5 _ rfl, hM.u.a35.ld _ a rfl ha, mv2 ha, hM.u.g6 _ rfl, hM.u.a36.ld _ a rfl ha, mv3 ha, hM.u.g7 _ rfl, hM.u.a37.ld _ a rfl ha, mv4 ha, hM.u.g8 _ rfl, hM.u.a38.ld _ a rfl ha, mv5 ha, hM.u.g9 _ rfl, hM.u.a39.ld _ a rfl ha, mv6 ha, hM.u.g10 _ rfl, hM.u.a40.ld _ a rfl ha, mv7 ha, hM.u.g11 _ rfl, hM.u.a41.ld _ a rfl ha, mv8 ha, X12_sellsAt hM.u ha, X12_buysAt hM.u ha]
        rfl
    by_cases y5 : y = 5
    · subst y5
      refine ⟨_, two (g := fun T => f_X12_house T 33 (nI a) 5) (v := hsV (mV S) a 5) (S1 := S) (S2 := m15 S) ?_ ?_, qt⟩
      · simp only [f_X11_house, hS.o S rfl, if_true, hS.g0 S rfl, X6_hasHouse' hS.l1, hv, hh, b2i_t, Option.bind_some, hS.l1.g0 S rfl, hS.l1.hr hH ha, dyK (okF_h hH ha), dyS (okF_h hH ha), dyB (okF_h hH ha), gF_hh hH ha, lv1 (L := 1) ha, lv2 (L := 1) ha, lv3 (L := 1) ha, lv4 (L := 1) ha, lv5 (L := 1) ha, lv6 (L := 1) ha, lv7 (L := 1) ha, hS.l1.g2 S rfl, hS.l1.A2.ld S a rfl ha, lv8 (L := 1) ha]
        rfl
      · simp only [f_X12_house, hM.o _ rfl, if_true, hM.q, Option.bind_some, X12_isHouse hM.u hz h6, eM, hh, b2i_t, hM.u.g4 _ rfl, hM.u.a34.ld _ a rfl ha, mv1 ha, hM.u.g5 _ rfl, hM.u.a35.ld _ a rfl ha, mv2 ha, hM.u.g6 _ rfl, hM.u.a36.ld _ a rfl ha, mv3 ha, hM.u.g7 _ rfl, hM.u.a37.ld _ a rfl ha, mv4 ha, hM.u.g8 _ rfl, hM.u.a38.ld _ a rfl ha, mv5 ha, hM.u.g9 _ rfl, hM.u.a39.ld _ a rfl ha, mv6 ha, hM.u.g10 _ rfl, hM.u.a40.ld _ a rfl ha, mv7 ha, hM.u.g11 _ rfl, hM.u.a41.ld _ a rfl ha, mv8 ha, X12_sellsAt hM.u ha, X12_buysAt hM.u ha]
        rfl
    by_cases y6 : y = 6
    · subst y6
      refine ⟨_, two (g := fun T => f_X12_house T 33 (nI a) 6) (v := hsV (mV S) a 6) (S1 := S) (S2 := m15 S) ?_ ?_, qt⟩
      · simp only [f_X11_house, hS.o S rfl, if_true, hS.g0 S rfl, X6_hasHouse' hS.l1, hv, hh, b2i_t, Option.bind_some, hS.l1.g0 S rfl, hS.l1.hr hH ha, dyK (okF_h hH ha), dyS (okF_h hH ha), dyB (okF_h hH ha), gF_hh hH ha, lv1 (L := 1) ha, lv2 (L := 1) ha, lv3 (L := 1) ha, lv4 (L := 1) ha, lv5 (L := 1) ha, lv6 (L := 1) ha, lv7 (L := 1) ha, hS.l1.g2 S rfl, hS.l1.A2.ld S a rfl ha, lv8 (L := 1) ha]
        rfl
      · simp only [f_X12_house, hM.o _ rfl, if_true, hM.q, Option.bind_some, X12_isHouse hM.u hz h6, eM, hh, b2i_t, hM.u.g4 _ rfl, hM.u.a34.ld _ a rfl ha, mv1 ha, hM.u.g5 _ rfl, hM.u.a35.ld _ a rfl ha, mv2 ha, hM.u.g6 _ rfl, hM.u.a36.ld _ a rfl ha, mv3 ha, hM.u.g7 _ rfl, hM.u.a37.ld _ a rfl ha, mv4 ha, hM.u.g8 _ rfl, hM.u.a38.ld _ a rfl ha, mv5 ha, hM.u.g9 _ rfl, hM.u.a39.ld _ a rfl ha, mv6 ha, hM.u.g10 _ rfl, hM.u.a40.ld _ a rfl ha, mv7 ha, hM.u.g11 _ rfl, hM.u.a41.ld _ a rfl ha, mv8 ha, X12_sellsAt hM.u ha, X12_buysAt hM.u ha]
        rfl
    by_cases y7 : y = 7
    · subst y7
      refine ⟨_, two (g := fun T => f_X12_house T 33 (nI a) 7) (v := hsV (mV S) a 7) (S1 := S) (S2 := m15 S) ?_ ?_, qt⟩
      · simp only [f_X11_house, hS.o S rfl, if_true, hS.g0 S rfl, X6_hasHouse' hS.l1, hv, hh, b2i_t, Option.bind_some, hS.l1.g0 S rfl, hS.l1.hr hH ha, dyK (okF_h hH ha), dyS (okF_h hH ha), dyB (okF_h hH ha), gF_hh hH ha, lv1 (L := 1) ha, lv2 (L := 1) ha, lv3 (L := 1) ha, lv4 (L := 1) ha, lv5 (L := 1) ha, lv6 (L := 1) ha, lv7 (L := 1) ha, hS.l1.g2 S rfl, hS.l1.A2.ld S a rfl ha, lv8 (L := 1) ha]
        rfl
      · simp only [f_X12_house, hM.o _ rfl, if_true, hM.q, Option.bind_some, X12_isHouse hM.u hz h6, eM, hh, b2i_t, hM.u.g4 _ rfl, hM.u.a34.ld _ a rfl ha, mv1 ha, hM.u.g5 _ rfl, hM.u.a35.ld _ a rfl ha, mv2 ha, hM.u.g6 _ rfl, hM.u.a36.ld _ a rfl ha, mv3 ha, hM.u.g7 _ rfl, hM.u.a37.ld _ a rfl ha, mv4 ha, hM.u.g8 _ rfl, hM.u.a38.ld _ a rfl ha, mv5 ha, hM.u.g9 _ rfl, hM.u.a39.ld _ a rfl ha, mv6 ha, hM.u.g10 _ rfl, hM.u.a40.ld _ a rfl ha, mv7 ha, hM.u.g11 _ rfl, hM.u.a41.ld _ a rfl ha, mv8 ha, X12_sellsAt hM.u ha, X12_buysAt hM.u ha]
        rfl
    by_cases y8 : y = 8
    · subst y8
      refine ⟨_, two (g := fun T => f_X12_house T 33 (nI a) 8) (v := hsV (mV S) a 8) (S1 := S) (S2 := m15 S) ?_ ?_, qt⟩
      · simp only [f_X11_house, hS.o S rfl, if_true, hS.g0 S rfl, X6_hasHouse' hS.l1, hv, hh, b2i_t, Option.bind_some, hS.l1.g0 S rfl, hS.l1.hr hH ha, dyK (okF_h hH ha), dyS (okF_h hH ha), dyB (okF_h hH ha), gF_hh hH ha, lv1 (L := 1) ha, lv2 (L := 1) ha, lv3 (L := 1) ha, lv4 (L := 1) ha, lv5 (L := 1) ha, lv6 (L := 1) ha, lv7 (L := 1) ha, hS.l1.g2 S rfl, hS.l1.A2.ld S a rfl ha, lv8 (L := 1) ha]
        rfl
      · simp only [f_X12_house, hM.o _ rfl, if_true, hM.q, Option.bind_some, X12_isHouse hM.u hz h6, eM, hh, b2i_t, hM.u.g4 _ rfl, hM.u.a34.ld _ a rfl ha, mv1 ha, hM.u.g5 _ rfl, hM.u.a35.ld _ a rfl ha, mv2 ha, hM.u.g6 _ rfl, hM.u.a36.ld _ a rfl ha, mv3 ha, hM.u.g7 _ rfl, hM.u.a37.ld _ a rfl ha, mv4 ha, hM.u.g8 _ rfl, hM.u.a38.ld _ a rfl ha, mv5 ha, hM.u.g9 _ rfl, hM.u.a39.ld _ a rfl ha, mv6 ha, hM.u.g10 _ rfl, hM.u.a40.ld _ a rfl ha, mv7 ha, hM.u.g11 _ rfl, hM.u.a41.ld _ a rfl ha, mv8 ha, X12_sellsAt hM.u ha, X12_buysAt hM.u ha]
        rfl
    by_cases y9 : y = 9
    · subst y9
      refine ⟨_, two (g := fun T => f_X12_house T 33 (nI a) 9) (v := hsV (mV S) a 9) (S1 := S) (S2 := m15 S) ?_ ?_, qt⟩
      · simp only [f_X11_house, hS.o S rfl, if_true, hS.g0 S rfl, X6_hasHouse' hS.l1, hv, hh, b2i_t, Option.bind_some, hS.l1.g0 S rfl, hS.l1.hr hH ha, dyK (okF_h hH ha), dyS (okF_h hH ha), dyB (okF_h hH ha), gF_hh hH ha, lv1 (L := 1) ha, lv2 (L := 1) ha, lv3 (L := 1) ha, lv4 (L := 1) ha, lv5 (L := 1) ha, lv6 (L := 1) ha, lv7 (L := 1) ha, hS.l1.g2 S rfl, hS.l1.A2.ld S a rfl ha, lv8 (L := 1) ha]
        rfl
      · simp only [f_X12_house, hM.o _ rfl, if_true, hM.q, Option.bind_some, X12_isHouse hM.u hz h6, eM, hh, b2i_t, hM.u.g4 _ rfl, hM.u.a34.ld _ a rfl ha, mv1 ha, hM.u.g5 _ rfl, hM.u.a35.ld _ a rfl ha, mv2 ha, hM.u.g6 _ rfl, hM.u.a36.ld _ a rfl ha, mv3 ha, hM.u.g7 _ rfl, hM.u.a37.ld _ a rfl ha, mv4 ha, hM.u.g8 _ rfl, hM.u.a38.ld _ a rfl ha, mv5 ha, hM.u.g9 _ rfl, hM.u.a39.ld _ a rfl ha, mv6 ha, hM.u.g10 _ rfl, hM.u.a40.ld _ a rfl ha, mv7 ha, hM.u.g11 _ rfl, hM.u.a41.ld _ a rfl ha, mv8 ha, X12_sellsAt hM.u ha, X12_buysAt hM.u ha]
        rfl
    refine ref 2 (-2) (by omega) ?_ ?_
    · simp only [f_X11_house, hS.o S rfl, if_true, hS.g0 S rfl, X6_hasHouse' hS.l1, hv, hh, b2i_t, Option.bind_some, hS.l1.g0 S rfl, hS.l1.hr hH ha, dyK (okF_h hH ha), dyS (okF_h hH ha), dyB (okF_h hH ha), gF_hh hH ha, lv1 (L := 1) ha, lv2 (L := 1) ha, lv3 (L := 1) ha, lv4 (L := 1) ha, lv5 (L := 1) ha, lv6 (L := 1) ha, lv7 (L := 1) ha, hS.l1.g2 S rfl, hS.l1.A2.ld S a rfl ha, lv8 (L := 1) ha, y0, y1, y2, y3, y4, y5, y6, y7, y8, y9, if_false, (cR hS).2.1]
      rfl
    · simp only [f_X12_house, (hMk 2).o _ rfl, if_true, (hMk 2).q, Option.bind_some, X12_isHouse (hMk 2).u (hzk 2) h6, eMk, hh, b2i_t, (hMk 2).u.g4 _ rfl, (hMk 2).u.a34.ld _ a rfl ha, mv1 ha, (hMk 2).u.g5 _ rfl, (hMk 2).u.a35.ld _ a rfl ha, mv2 ha, (hMk 2).u.g6 _ rfl, (hMk 2).u.a36.ld _ a rfl ha, mv3 ha, (hMk 2).u.g7 _ rfl, (hMk 2).u.a37.ld _ a rfl ha, mv4 ha, (hMk 2).u.g8 _ rfl, (hMk 2).u.a38.ld _ a rfl ha, mv5 ha, (hMk 2).u.g9 _ rfl, (hMk 2).u.a39.ld _ a rfl ha, mv6 ha, (hMk 2).u.g10 _ rfl, (hMk 2).u.a40.ld _ a rfl ha, mv7 ha, (hMk 2).u.g11 _ rfl, (hMk 2).u.a41.ld _ a rfl ha, mv8 ha, X12_sellsAt (hMk 2).u ha, X12_buysAt (hMk 2).u ha, y0, y1, y2, y3, y4, y5, y6, y7, y8, y9, if_false, (mR' (hMk 2).u).2.1]
      rfl
  · rw [Bool.not_eq_true] at hh
    refine ref 1 (-1) (by omega) ?_ ?_
    · simp only [f_X11_house, hS.o S rfl, if_true, hS.g0 S rfl, X6_hasHouse' hS.l1, hv, hh, b2i_f, Option.bind_some, (cR hS).1]
    · simp only [f_X12_house, (hMk 1).o _ rfl, if_true, (hMk 1).q, Option.bind_some, X12_isHouse (hMk 1).u (hzk 1) h6, eMk, hh, b2i_f, (mR' (hMk 1).u).1]
/-! a sale that is tried -/
def okT (V : Vw) (x y z : Int32) : Bool := twoV V x y && goodI z && canV V x.toNatClampNeg y.toNatClampNeg z.toNatClampNeg
theorem okT_n {V : Vw} {n : Nat} {x y z : Int32} (hn : V 0 0 = nI n) (h6 : n ≤ 6) (h : okT V x y z = true) : ∃ a b g, a < n ∧ b < n ∧ g < 3 ∧ a ≠ b ∧ x = nI a ∧ y = nI b ∧ z = nI g ∧ canV V a b g = true := by
  simp only [okT, Bool.and_eq_true] at h
  obtain ⟨⟨h1, h2⟩, h3⟩ := h
  obtain ⟨a, b, a1, b1, hab, rfl, rfl⟩ := twoV_n hn h6 h1
  obtain ⟨g, g1, rfl⟩ := goodI_n h2
  rw [nI_clamp (by omega), nI_clamp (by omega), nI_clamp (by omega)] at h3
  exact ⟨a, b, g, a1, b1, g1, hab, rfl, rfl, rfl, h3⟩
theorem okT_at {V : Vw} {a b g : Nat} (ha : a < 6) (hb : b < 6) (hg : g < 3) (h1 : twoV V (nI a) (nI b) = true) (h2 : goodI (nI g) = true) : okT V (nI a) (nI b) (nI g) = canV V a b g := by
  rw [okT, h1, h2, nI_clamp (by omega), nI_clamp (by omega), nI_clamp (by omega)]
  rfl
theorem X6_trySale {S : Mm} {L n : Nat} (hL : LandZ S.2 L) (hH : HsZ S.2 L) (hB : Bd (lV S L) n) (x y z : Int32) : (okT (lV S L) x y z = false → f_X6_trySale S L x y z = some (0, S)) ∧ (okT (lV S L) x y z = true → ∃ S', f_X6_trySale S L x y z = some (1, S') ∧ Ag [L + 2, L + 3] S S' ∧ lV S' L = mvV (lV S L) x.toNatClampNeg y.toNatClampNeg z.toNatClampNeg) := by
  have h6 := hB.le
  refine ⟨fun h => ?_, fun h => ?_⟩
  · by_cases h1 : twoV (lV S L) x y = true
    · by_cases h2 : goodI z = true
      · obtain ⟨a, b, a1, b1, hab, rfl, rfl⟩ := twoV_n hB.sz h6 h1
        obtain ⟨g, g1, rfl⟩ := goodI_n h2
        rw [okT_at (by omega) (by omega) g1 h1 h2] at h
        simp only [f_X6_trySale, f_X6_trySale_35, hL.o S rfl, if_true, X6_areTwo hL, h1, b2i_t, Option.bind_some, X11_isGood, h2, X6_isLawful hL hH (show a < 6 by omega) (show b < 6 by omega), X6_hasMeans hL (show a < 6 by omega) (show b < 6 by omega) g1]
        rw [if_neg (by decide), if_neg (by decide)]
        unfold canV at h
        cases hl : lawV (lV S L) a b
        · rfl
        · rw [hl, Bool.true_and] at h
          rw [h, if_neg (by decide), if_pos (by decide)]
      · rw [Bool.not_eq_true] at h2
        simp only [f_X6_trySale, f_X6_trySale_35, hL.o S rfl, if_true, X6_areTwo hL, h1, b2i_t, Option.bind_some, X11_isGood, h2, b2i_f]
        rfl
    · rw [Bool.not_eq_true] at h1
      simp only [f_X6_trySale, f_X6_trySale_35, hL.o S rfl, if_true, X6_areTwo hL, h1, b2i_f, Option.bind_some]
  · obtain ⟨a, b, g, a1, b1, g1, hab, rfl, rfl, rfl, hc⟩ := okT_n hB.sz h6 h
    obtain ⟨S', e1, e2, e3⟩ := X6_moveOnePiece hL hH (show a < 6 by omega) (show b < 6 by omega) g1 hab
    refine ⟨S', ?_, e2, by rw [nI_clamp (by omega), nI_clamp (by omega), nI_clamp (by omega)]; exact e3⟩
    simp only [okT, Bool.and_eq_true] at h
    simp only [canV, Bool.and_eq_true] at hc
    simp only [f_X6_trySale, f_X6_trySale_35, hL.o S rfl, if_true, X6_areTwo hL, h.1.1, b2i_t, Option.bind_some, X11_isGood, h.1.2, X6_isLawful hL hH (show a < 6 by omega) (show b < 6 by omega), X6_hasMeans hL (show a < 6 by omega) (show b < 6 by omega) g1, hc.1, hc.2, e1]
    rfl
theorem X12_isSold {S : Mm} {n : Nat} (hM : ModZ S.2) (hB : Bd (mV S) n) (x y z : Int32) : (okT (mV S) x y z = false → f_X12_isSold S 33 x y z = some (0, S)) ∧ (okT (mV S) x y z = true → ∃ S', f_X12_isSold S 33 x y z = some (1, S') ∧ Ag [41, 42] S S' ∧ mV S' = mvV (mV S) x.toNatClampNeg y.toNatClampNeg z.toNatClampNeg) := by
  have h6 := hB.le
  obtain ⟨q, q3, hq⟩ := hB.lw
  refine ⟨fun h => ?_, fun h => ?_⟩
  · by_cases h1 : twoV (mV S) x y = true
    · by_cases h2 : goodI z = true
      · obtain ⟨a, b, a1, b1, hab, rfl, rfl⟩ := twoV_n hB.sz h6 h1
        obtain ⟨g, g1, rfl⟩ := goodI_n h2
        rw [okT_at (by omega) (by omega) g1 h1 h2] at h
        simp only [f_X12_isSold, f_X12_isSold_30, f_X12_isSold_31, f_X12_isSold_45, hM.o S rfl, if_true, X12_areTwo hM hB.sz h6, h1, b2i_t, Option.bind_some, X12_isGood, h2, X12_canSell hM hq q3 (show a < 6 by omega) (show b < 6 by omega) g1, h, b2i_f, rB_0]
        rfl
      · rw [Bool.not_eq_true] at h2
        simp only [f_X12_isSold, f_X12_isSold_30, f_X12_isSold_31, f_X12_isSold_45, hM.o S rfl, if_true, X12_areTwo hM hB.sz h6, h1, b2i_t, Option.bind_some, X12_isGood, h2, b2i_f, rB_0]
        rfl
    · rw [Bool.not_eq_true] at h1
      simp only [f_X12_isSold, f_X12_isSold_30, f_X12_isSold_31, f_X12_isSold_45, hM.o S rfl, if_true, X12_areTwo hM hB.sz h6, h1, b2i_f, Option.bind_some, rB_0]
  · obtain ⟨a, b, g, a1, b1, g1, hab, rfl, rfl, rfl, hc⟩ := okT_n hB.sz h6 h
    obtain ⟨S', e1, e2, e3⟩ := X12_sell hM (show a < 6 by omega) (show b < 6 by omega) g1 hab
    refine ⟨S', ?_, e2, by rw [nI_clamp (by omega), nI_clamp (by omega), nI_clamp (by omega)]; exact e3⟩
    simp only [okT, Bool.and_eq_true] at h
    simp only [f_X12_isSold, f_X12_isSold_30, f_X12_isSold_31, f_X12_isSold_45, hM.o S rfl, if_true, X12_areTwo hM hB.sz h6, h.1.1, b2i_t, Option.bind_some, X12_isGood, h.1.2, X12_canSell hM hq q3 (show a < 6 by omega) (show b < 6 by omega) g1, hc, e1, rB_1]
    rfl
/-! sale -/
theorem st_7 {j : Nat} {S : Mm} (hI : Inv j S) (x y z : Int32) : ∃ S', ls_7 0 33 S x y z = some S' ∧ Inv (j + 1) S' := by
  unfold ls_7
  have hS := hI.1
  have hv := hI.2.2.1
  have hH := hI.2.1.1
  obtain ⟨⟨n, hB⟩, ⟨w, w1, w2⟩, ⟨m, m1, m2⟩⟩ := hI.2.2.2.1
  have hM := hS.m
  have h6 := hB.le
  have eM := m15_mV S
  have hMk : ∀ k, ModZ (rfC S k).2 := fun k => hS.m
  have eMk : ∀ k, mV (m15 (rfC S k)) = mV S := fun k => by rw [m15_mV, rfC_mV]
  have hz : mV (m15 S) 0 0 = nI n := by rw [eM]; exact hB.sz
  have hzk : ∀ k, mV (m15 (rfC S k)) 0 0 = nI n := fun k => by rw [eMk]; exact hB.sz
  have qt : Inv (j + 1) (m15 S) := hI.qt (cs := [33]) (ws := []) (Gx.ag (Ag.m15 (by simp))) (by simp) (by unfold Fre; decide) (by decide) rfl rfl rfl hI.2.1.2.1 eM
  have ref : ∀ (k : Nat) (c : Int32), k < 7 → f_X11_sale S 0 x y z = some (c, rfC S k) → f_X12_sale (rfC S k) 33 x y z = some (c, rfM (m15 (rfC S k)) k) → ∃ S', ((f_X11_sale S 0 x y z).bind fun q => (f_X12_sale q.2 33 x y z).bind fun r => if q.1 = r.1 then some r.2 else none) = some S' ∧ Inv (j + 1) S' := fun k c hk h1 h2 => ⟨_, two (g := fun T => f_X12_sale T 33 x y z) h1 h2, hI.rf hk⟩
  by_cases hh : twoV (mV S) x y = true
  · by_cases hg : goodI z = true
    · obtain ⟨a, b, a1, b1, hab, rfl, rfl⟩ := twoV_n hB.sz hB.le hh
      obtain ⟨g, g1, rfl⟩ := goodI_n hg
      obtain ⟨q, q3, hq⟩ := hB.lw
      have ha : a < 6 := by omega
      have hb : b < 6 := by omega
      have ho := okT_at ha hb g1 hh hg
      obtain ⟨t0, t1⟩ := X6_trySale hS.l1 hH (by rw [hv]; exact hB) (nI a) (nI b) (nI g)
      rw [hv] at t0 t1
      by_cases hc : canV (mV S) a b g = true
      · obtain ⟨S1, e1, e2, e3⟩ := t1 (by rw [ho]; exact hc)
        rw [nI_clamp (by omega), nI_clamp (by omega), nI_clamp (by omega)] at e3
        have z1 : S1.2 = S.2 := e2.1
        have hM1 : ModZ S1.2 := by rw [z1]; exact hM
        have eM1 : mV (m15 S1) = mV S := by rw [m15_mV]; exact mV_ag e2 (by simp)
        have hz1 : mV (m15 S1) 0 0 = nI n := by rw [eM1]; exact hB.sz
        have hq1 : mV (m15 S1) 0 1 = nI q := by rw [eM1]; exact hq
        obtain ⟨S2, f1, f2, f3⟩ := X12_sell hM1.u ha hb g1 hab
        rw [eM1] at f3
        have z2 : S2.2 = S.2 := f2.1.trans z1
        have hM2 : ModZ S2.2 := by rw [z2]; exact hM
        have hS1 : Sh S1.2 := by rw [z1]; exact hS
        refine ⟨_, two (g := fun T => f_X12_sale T 33 (nI a) (nI b) (nI g)) (v := mvV (mV S) a b g 8 b) (S1 := S1) (S2 := S2) ?_ ?_, hI.ed (cs := [3, 4]) (ds := [33, 41, 42]) (js := [15]) e2 ((Ag.m15 (by simp)).tr (f2.mono (by simp +contextual))) ((O33.m15 (by simp)).tr (O33.ag f2 (by simp))) (by unfold Fre; decide) (by simp) (by simp) (by simp) e3 f3 ⟨⟨n, (hB.mv a1 b1 g1 hc).1⟩, ⟨w, by omega, w2⟩, m, by omega, m2⟩⟩
        · simp only [f_X11_sale, hS.o S rfl, if_true, hS.g0 S rfl, X6_areTwo hS.l1, hv, hh, b2i_t, Option.bind_some, X11_isGood, hg, e1, hS1.g0 S1 rfl, hS1.l1.g2 S1 rfl, hS1.l1.A2.ld S1 b rfl hb, lv8 (L := 1) hb, e3]
          rfl
        · simp only [f_X12_sale, hM1.o _ rfl, if_true, hM1.q, Option.bind_some, X12_areTwo hM1.u hz1 h6, eM1, hh, b2i_t, X12_isGood, hg, X12_canSell hM1.u hq1 q3 ha hb g1, hc, f1, hM2.g11 S2 rfl, hM2.a41.ld S2 b rfl hb, mv8 hb, f3]
          rfl
      · rw [Bool.not_eq_true] at hc
        have hq1 : mV (m15 (rfC S 3)) 0 1 = nI q := by rw [eMk]; exact hq
        refine ref 3 (-3) (by omega) ?_ ?_
        · simp only [f_X11_sale, hS.o S rfl, if_true, hS.g0 S rfl, X6_areTwo hS.l1, hv, hh, b2i_t, Option.bind_some, X11_isGood, hg, t0 (by rw [ho]; exact hc), (cR hS).2.2.1]
          rfl
        · simp only [f_X12_sale, (hMk 3).o _ rfl, if_true, (hMk 3).q, Option.bind_some, X12_areTwo (hMk 3).u (hzk 3) h6, eMk, hh, b2i_t, X12_isGood, hg, X12_canSell (hMk 3).u hq1 q3 ha hb g1, hc, b2i_f, (mR' (hMk 3).u).2.2.1]
          rfl
    · rw [Bool.not_eq_true] at hg
      refine ref 1 (-1) (by omega) ?_ ?_
      · simp only [f_X11_sale, f_X11_sale_19, hS.o S rfl, if_true, hS.g0 S rfl, X6_areTwo hS.l1, hv, hh, b2i_t, Option.bind_some, X11_isGood, hg, b2i_f, (cR hS).1]
        rfl
      · simp only [f_X12_sale, f_X12_sale_21, (hMk 1).o _ rfl, if_true, (hMk 1).q, Option.bind_some, X12_areTwo (hMk 1).u (hzk 1) h6, eMk, hh, b2i_t, X12_isGood, hg, b2i_f, (mR' (hMk 1).u).1]
        rfl
  · rw [Bool.not_eq_true] at hh
    refine ref 1 (-1) (by omega) ?_ ?_
    · simp only [f_X11_sale, f_X11_sale_19, hS.o S rfl, if_true, hS.g0 S rfl, X6_areTwo hS.l1, hv, hh, b2i_f, Option.bind_some, (cR hS).1]
    · simp only [f_X12_sale, f_X12_sale_21, (hMk 1).o _ rfl, if_true, (hMk 1).q, Option.bind_some, X12_areTwo (hMk 1).u (hzk 1) h6, eMk, hh, b2i_f, (mR' (hMk 1).u).1]
