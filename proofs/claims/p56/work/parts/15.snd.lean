section E15
variable {L : Nat} {xs : Nat → Int32} {n : Nat}
theorem e_cn_tab : ∀ y, y < 188 → e_cn (e_cy y) = (e_nm y).cls := by decide +kernel
theorem e_tabm_len : e_tabm.length = 188 := by decide +kernel
theorem e_ws_good {ws : List Cond} {r : e_Row} (hr : e_okr r) (h : ∀ w ∈ ws, w ∈ lw_tbl ∧ goodWord w = true) : GoodIn e_Ws (ws ++ (e_cw r :: e_Ws)) := by
  intro w hw
  rcases List.mem_append.mp hw with hw | hw
  · exact ⟨e_Ws_in (h w hw).1 (h w hw).2, good_of_word (h w hw).2⟩
  · rcases List.mem_cons.mp hw with rfl | hw
    · have hg : goodWord (e_cw r) = true := by unfold e_cw; split <;> rfl
      exact ⟨e_Ws_in hr.1 hg, good_of_word hg⟩
    · exact ⟨hw, e_Ws_good w hw⟩
set_option maxHeartbeats 8000000 in
theorem e_step (hS : e_S L xs n) : e_S L xs (n + 1) := by
  intro d y pc lo st h res hrun p l e R s m args below meth c H locs cells slots Q ls ad B0 bS D dA F G hbS hsc hll hl hP hD hSS hf hlo hc hs hE
  have F2 := F
  obtain ⟨hx, hb, hr9, hml, hown, hws, hlk, hin, hstt, htb, hcn⟩ := F2
  have G2 := G
  obtain ⟨hB, hK, hX, hU, hN, hng, hao, hnc⟩ := G2
  have hts : ∀ w ∈ e_Ws, w.before args s = true := fun w hw => hws w (List.mem_filter.mp hw).1 (List.mem_filter.mp hw).2
  have next : ∀ {pc2 : Nat} {lo2 : e_L} {st2 : List Value} {h2 : e_H} {H2 : Heap} {locs2 : List Loc} {ls2 : Array Slot}, e_run L xs n d y pc2 lo2 st2 h2 = some res → lo2.length = lo.length → e_lr ls2 ad lo2 → h2.length = h.length → va_P D vwCl (e_w dA ad h2) H2 → va_D (e_A B0) (e_w dA ad h2) → va_S (e_A B0) s.heap H2 locs2 →
      W p l e R s m args below meth c H2 locs2 cells slots Q (F0 m pc2 ls2 (st2.map (e_mv ad))) := by
    intro pc2 lo2 st2 h2 H2 locs2 ls2 k1 k2 k3 k4 k5 k6 k7
    refine hS d y pc2 lo2 st2 h2 res k1 p l e R s m args below meth c H2 locs2 cells slots Q ls2 ad B0 bS D dA F G hbS hsc (k2.trans hll) k3 k5 k6 k7 hf hlo hc hs ?_
    rw [k4]; exact hE
  have hrun0 : e_bd L xs (e_run L xs n) d y pc lo st h = some res := hrun
  unfold e_bd at hrun0
  split at hrun0
  · cases hrun0
  · next ins len hd =>
    split at hrun0
    · next n1 st2 h1 =>
      split at hrun0
      · next hn =>
        subst hn
        exact e_op_ok hx hb hl h1 hd (next hrun0 rfl hl rfl hP hD hSS)
      · cases hrun0
    · split at hrun0
      · next n1 lo2 st2 h1 =>
        split at hrun0
        · next hn =>
          subst hn
          exact e_os_ok hx hb hl h1 hd fun ls2 a1 a2 => next hrun0 a2 a1 rfl hP hD hSS
        · cases hrun0
      · split at hrun0
        · next t st2 h1 => exact e_br_ok hx hb h1 hd (next hrun0 rfl hl rfl hP hD hSS)
        · split at hrun0
          · next n1 st2 h1 =>
            split at hrun0
            · next hn =>
              subst hn
              exact e_hl_ok F G hbS hsc hP hSS h1 hd (next hrun0 rfl hl rfl hP hD hSS)
            · cases hrun0
          · split at hrun0
            · next n1 st2 h2 h1 =>
              split at hrun0
              · next hn =>
                subst hn
                exact e_hs_ok F G hP hD hSS h1 hd fun H1 locs1 a1 a2 a3 a4 => next hrun0 rfl hl a4 a1 a2 a3
              · cases hrun0
            · split at hrun0
              · next v h1 =>
                split at hrun0
                · next hn =>
                  subst hn
                  cases hrun0
                  exact hE.1 v rfl ins pc st ls H locs ad cells slots h1 hd ⟨e_ag.rf, fun _ => rfl⟩ hP hD hSS (Nat.le_refl _) (Nat.le_refl _)
                · cases hrun0
              · split at hrun0
                · next kd idx hik =>
                  split at hrun0
                  · next hn =>
                    subst hn
                    split at hrun0
                    · next y2 nest hca =>
                      split at hrun0
                      · next hkd =>
                        obtain ⟨r, hrow, hlink⟩ := e_call_ok _ (e_ir2_mem hca)
                        have hr := e_row_of hrow
                        have hok := e_okm r (List.mem_of_getElem? hrow)
                        obtain ⟨o1, o2, o3, o4, o5, o6, o7, o8, o9⟩ := id hok
                        have en : e_nm y2 = r.1 := by unfold e_nm; rw [hr]
                        have em : e_ml y2 = r.2.2.1 := by unfold e_ml; rw [hr]
                        have ek : e_kd y2 = r.2.2.2.2.2.1 := by unfold e_kd; rw [hr]
                        have ep : e_np y2 = r.2.2.2.2.2.2 := by unfold e_np; rw [hr]
                        have hy2 : y2 < 188 := by
                          have := (List.getElem?_eq_some_iff.mp hrow).1
                          rw [e_tabm_len] at this
                          exact this
                        have hcy2 := e_cn_tab y2 hy2
                        have hfix : CallFix p m c (e_bc y) ls.size s args e_Ws (e_cn (e_cy y)) := ⟨hx, hb, by rw [hml, hl.1, hll], hown, hts⟩
                        have hpre : ∀ {av : List Value} (U : State), U.heap = H → s.WarmedH U.vm → e_Pc L xs B0 bS D dA ad h av (av.map (e_mv ad)).toArray U := fun U hU hW => ⟨rfl, G.moved hbS hSS hU hW, by rw [hU]; exact hP, hD⟩
                        have hroom : ∀ {d2 : Nat} {resc : e_R}, d = d2 + 1 → (e_rm d2 resc.2.2.1 resc.2.2.2).frames + 1 ≤ R.frames ∧ 8 + (r.2.2.1 + 11) + (e_rm d2 resc.2.2.1 resc.2.2.2).locals ≤ R.locals := fun {d2 resc} hd2 => by
                          show (d2 + 8) + 1 ≤ R.frames ∧ 8 + (r.2.2.1 + 11) + (64 * d2 + 200) ≤ R.locals
                          omega
                        split at hrun0
                        · next hk0 =>
                          -- static
                          subst hk0
                          have hk2 : r.2.2.2.2.2.1 = 0 := ek.symm.trans hkd
                          have hins : ins = .invokestatic idx := by
                            unfold e_ik at hik
                            split at hik
                            · cases hik; rfl
                            · cases hik
                            · cases hik
                            · cases hik
                          subst hins
                          refine e_ca_ok hS hrun0 F G hbS hsc hll hl hP hD hSS hf hlo hc hs hE fun d2 resc hd2 q1 q2 q3 q4 q5 q6 => ?_
                          have hM := e_met (l := l) (D := D) (dA := dA) (B0 := B0) (bS := bS) (ad := ad) hS q1 q2 hrow hcy2 hbS hsc hstt
                          have hstk : (F0 m pc ls (st.map (e_mv ad))).stack = ((st.take (e_np y2)).reverse.map (e_mv ad)).reverse ++ (st.drop (e_np y2)).map (e_mv ad) := by
                            show st.map (e_mv ad) = _
                            rw [← List.map_reverse, List.reverse_reverse, ← List.map_append, List.take_append_drop]
                          have hnn : ((st.take (e_np y2)).reverse.map (e_mv ad)).length = r.2.2.2.2.2.2 := by
                            simp only [List.length_map, List.length_reverse, List.length_take]
                            rw [← ep]; omega
                          have hW8 : 2 * (F0 m pc ls (st.map (e_mv ad))).monitorRoom + (((st.drop (e_np y2)).map (e_mv ad)).map fun v => v.category).sum ≤ 8 := by
                            rw [e_mv_sum]
                            show 2 * 0 + _ ≤ 8
                            omega
                          rcases hlink with ⟨z0, z1⟩ | ⟨z0, z2, z1⟩
                          · have hg : GoodIn e_Ws (va_wsS (e_cn (e_cy y)) idx r.1 (e_cw r :: e_Ws)) := e_ws_good hok (fun w hw => by
                              simp only [List.mem_cons, List.not_mem_nil, or_false] at hw
                              rcases hw with rfl | rfl | rfl
                              · exact ⟨z1, rfl⟩
                              · exact ⟨o3 hk2, rfl⟩
                              · exact ⟨o2, rfl⟩)
                            by_cases hhh : r.2.2.2.2.1 = []
                            · have hcw : e_cw r = Cond.code r.1 r.2.1 r.2.2.1 r.2.2.2.1 := by unfold e_cw; rw [hhh]
                              exact vx_runS (As := (st.take (e_np y2)).reverse.map (e_mv ad)) hfix hM (va_cwS (ws' := e_Ws) (bytes := r.2.1) (maxL := r.2.2.1) (ret := r.2.2.2.1) _ hts hg (by rw [hcw]) rfl rfl o7 (hroom hd2)) ⟨e_Pc_blind, hpre⟩ rfl hnn rfl hstk hW8 hd ⟨q5, q6⟩
                            · have hcw : e_cw r = Cond.codeWith r.1 r.2.1 r.2.2.1 r.2.2.2.1 r.2.2.2.2.1 := by
                                unfold e_cw
                                split
                                · next z => exact absurd z hhh
                                · rfl
                              exact vx_runSX (As := (st.take (e_np y2)).reverse.map (e_mv ad)) hfix hM (vx_cwSW (ws' := e_Ws) (bytes := r.2.1) (maxL := r.2.2.1) (ret := r.2.2.2.1) (hh := r.2.2.2.2.1) _ hts hg (by rw [hcw]) rfl rfl o7 (hroom hd2)) ⟨e_Pc_blind, hpre⟩ rfl hnn rfl hstk hW8 hd ⟨q5, q6⟩
                          · have hcw : e_cw r = Cond.code r.1 r.2.1 r.2.2.1 r.2.2.2.1 := by unfold e_cw; rw [z2]
                            have hg : GoodIn e_Ws (e_cw r :: e_Ws) := e_ws_good (ws := []) hok (fun w hw => by cases hw)
                            exact vx_runSN (As := (st.take (e_np y2)).reverse.map (e_mv ad)) hfix hM ⟨va_cnB (ws' := e_Ws) (bytes := r.2.1) (maxL := r.2.2.1) (ret := r.2.2.2.1) _ hts hg (by rw [hcw]) rfl rfl (hng _ z1 rfl) (hws _ o2 rfl) o7 (hroom hd2), hws _ (o3 hk2) rfl, trivial⟩ ⟨e_Pc_blind, hpre⟩ rfl hnn rfl hstk hW8 hd ⟨q5, q6⟩
                        · next hk0 =>
                          split at hrun0
                          · next a hrecv =>
                            split at hrun0
                            · next c2 fs hcell =>
                              split at hrun0
                              · next hcls =>
                                have hk1 : r.2.2.2.2.2.1 ≠ 0 := fun z => hk0 (hkd.symm.trans (ek.trans z))
                                obtain ⟨cell, hc1, hc2, hc3⟩ : ∃ cell : Cell, H[ad a]? = some cell ∧ cell.vm.isStatics = false ∧ s.vm.findClass r.1.cls = some cell.cls := by
                                  have hw := e_w_at (dA := dA) (ad := ad) hcell
                                  obtain ⟨q, hq, -⟩ := hP _ _ hw
                                  have := va_recv hK hP hq hw
                                  have hqc : q.1 = e_cn c2 := (e_okcl c2 q hq).2.2.2.2.2.1
                                  rw [hqc, hcls, en] at this
                                  exact this
                                have hsplit : e_np y2 + 1 ≤ st.length := by
                                  have := (List.getElem?_eq_some_iff.mp hrecv).1
                                  omega
                                have hta : (st.take (e_np y2 + 1)).reverse = .ref a :: (st.take (e_np y2)).reverse := by
                                  rw [List.take_add_one, hrecv]
                                  simp
                                have hstk : (F0 m pc ls (st.map (e_mv ad))).stack = ((st.take (e_np y2)).reverse.map (e_mv ad)).reverse ++ .ref (ad a) :: (st.drop (e_np y2 + 1)).map (e_mv ad) := by
                                  show st.map (e_mv ad) = _
                                  rw [← List.map_reverse, List.reverse_reverse]
                                  have h1 : st = st.take (e_np y2) ++ .ref a :: st.drop (e_np y2 + 1) := by
                                    have := List.take_append_drop (e_np y2 + 1) st
                                    rw [List.take_add_one, hrecv] at this
                                    simpa using this.symm
                                  calc st.map (e_mv ad) = (st.take (e_np y2) ++ .ref a :: st.drop (e_np y2 + 1)).map (e_mv ad) := by rw [← h1]
                                    _ = _ := by rw [List.map_append]; rfl
                                have hnn : ((st.take (e_np y2)).reverse.map (e_mv ad)).length = r.2.2.2.2.2.2 := by
                                  simp only [List.length_map, List.length_reverse, List.length_take]
                                  rw [← ep]; omega
                                refine e_ca_ok hS hrun0 F G hbS hsc hll hl hP hD hSS hf hlo hc hs hE fun d2 resc hd2 q1 q2 q3 q4 q5 q6 => ?_
                                have hM := e_met (l := l) (D := D) (dA := dA) (B0 := B0) (bS := bS) (ad := ad) hS q1 q2 hrow hcy2 hbS hsc hstt
                                have hW8 : 2 * (F0 m pc ls (st.map (e_mv ad))).monitorRoom + (((st.drop (e_np y2 + 1)).map (e_mv ad)).map fun v => v.category).sum ≤ 8 := by
                                  rw [e_mv_sum]
                                  show 2 * 0 + _ ≤ 8
                                  omega
                                have hav : (st.take (e_np y2 + 1)).reverse.map (e_mv ad) = .ref (ad a) :: (st.take (e_np y2)).reverse.map (e_mv ad) := by rw [hta]; rfl
                                have hpre2 : ∀ U : State, U.heap = H → s.WarmedH U.vm → e_Pc L xs B0 bS D dA ad h (st.take (e_np y2 + 1)).reverse (.ref (ad a) :: (st.take (e_np y2)).reverse.map (e_mv ad)).toArray U := fun U hU hW => by
                                  have := hpre (av := (st.take (e_np y2 + 1)).reverse) U hU hW
                                  rw [hav] at this
                                  exact this
                                rw [hav]
                                unfold e_ik at hik
                                split at hik
                                · cases hik; exact absurd rfl hk0
                                · -- virtual
                                  cases hik
                                  have hk2 : r.2.2.2.2.2.1 = 1 := ek.symm.trans hkd
                                  obtain ⟨s1, s2⟩ := o5 hk2
                                  have hcw : e_cw r = Cond.code r.1 r.2.1 r.2.2.1 r.2.2.2.1 := by unfold e_cw; rw [s2]
                                  rcases hlink with ⟨z0, z1⟩ | ⟨z0, z2, z1⟩
                                  · have hg : GoodIn e_Ws (wsV (e_cn (e_cy y)) idx r.1.cls r.1 (e_cw r :: e_Ws)) := e_ws_good hok (fun w hw => by
                                      simp only [List.mem_cons, List.not_mem_nil, or_false] at hw
                                      rcases hw with rfl | rfl | rfl | rfl
                                      · exact ⟨z1, rfl⟩
                                      · exact ⟨o4 hk1, rfl⟩
                                      · exact ⟨s1, rfl⟩
                                      · exact ⟨o2, rfl⟩)
                                    exact vx_runV (C := r.1.cls) (b := ad a) (As := (st.take (e_np y2)).reverse.map (e_mv ad)) hfix hM (cwV (ws' := e_Ws) (bytes := r.2.1) (maxL := r.2.2.1) (ret := r.2.2.2.1) _ hts hg (by rw [hcw]) rfl rfl ⟨rfl, o7⟩ (hroom hd2)) ⟨e_Pc_blind, ⟨cell, hc1, hc2, hc3⟩, hpre2⟩ rfl hnn rfl hstk hW8 hd ⟨q5, q6⟩
                                  · have hg : GoodIn e_Ws (e_cw r :: e_Ws) := e_ws_good (ws := []) hok (fun w hw => by cases hw)
                                    exact vx_runVN (C := r.1.cls) (b := ad a) (As := (st.take (e_np y2)).reverse.map (e_mv ad)) hfix hM ⟨va_cnB (ws' := e_Ws) (bytes := r.2.1) (maxL := r.2.2.1) (ret := r.2.2.2.1) _ hts hg (by rw [hcw]) rfl rfl (hng _ z1 rfl) (hws _ o2 rfl) o7 (hroom hd2), hws _ (o4 hk1) rfl, hws _ s1 rfl⟩ ⟨e_Pc_blind, ⟨cell, hc1, hc2, hc3⟩, hpre2⟩ rfl hnn rfl hstk hW8 hd ⟨q5, q6⟩
                                · -- special
                                  cases hik
                                  have hk2 : r.2.2.2.2.2.1 = 2 := ek.symm.trans hkd
                                  obtain ⟨s1, s2, s3⟩ := o6 hk2
                                  have hcw : e_cw r = Cond.code r.1 r.2.1 r.2.2.1 none := by unfold e_cw; rw [s3, s2]
                                  have hg : GoodIn e_Ws (e_cw r :: e_Ws) := e_ws_good (ws := []) hok (fun w hw => by cases hw)
                                  rcases hlink with ⟨z0, z1⟩ | ⟨z0, z2, z1⟩
                                  · exact vx_runI (b := ad a) (As := (st.take (e_np y2)).reverse.map (e_mv ad)) hfix hM (cwI (ws' := e_Ws) (bytes := r.2.1) (maxL := r.2.2.1) _ hts hg (by rw [hcw]) rfl rfl (hws _ o2 rfl) (hws _ z1 rfl) (hws _ (o4 hk1) rfl) s1 o7 (hroom hd2)) ⟨e_Pc_blind, hpre2⟩ rfl hnn rfl hstk hW8 hd ⟨q5, q6⟩
                                  · exact vx_runIN (b := ad a) (As := (st.take (e_np y2)).reverse.map (e_mv ad)) hfix hM ⟨va_cnB (ws' := e_Ws) (bytes := r.2.1) (maxL := r.2.2.1) (ret := none) _ hts hg (by rw [hcw]) rfl rfl (hng _ z1 rfl) (hws _ o2 rfl) o7 (hroom hd2), s1, hws _ (o4 hk1) rfl⟩ ⟨e_Pc_blind, hpre2⟩ rfl hnn rfl hstk hW8 hd ⟨q5, q6⟩
                                · cases hik
                              · cases hrun0
                            · cases hrun0
                          · cases hrun0
                      · cases hrun0
                    · split at hrun0
                      · next b hbt =>
                        split at hrun0
                        · next d2 st2 h2 hbl =>
                          exact e_bl_ok F G hl hll hP hD hSS hik hbt hbl hd (by omega) (by omega) (by omega) (by omega) fun H1 locs1 a1 a2 a3 a4 => next hrun0 rfl hl a4 a1 a2 a3
                        · cases hrun0
                      · cases hrun0
                  · cases hrun0
                · split at hrun0
                  · next n1 st2 h1 =>
                    split at hrun0
                    · next hn =>
                      subst hn
                      exact e_of_ok hx hb h1 hd (next hrun0 rfl hl rfl hP hD hSS)
                    · cases hrun0
                  · split at hrun0
                    · next n1 st2 x k h1 =>
                      split at hrun0
                      · next hq =>
                        obtain ⟨hn, hlen, hlk2, hck⟩ := hq
                        subst hn
                        obtain ⟨r, hr, rfl, hgrow⟩ := e_adk_ok hrun0
                        have hst2 : st2.all (e_vk h.length) = true := hlk2
                        refine e_mk_ok F G hP hD hSS h1 hd hlen hck hst2 (by simp only at hc; omega) (by simp only at hs; omega) fun q H1 a1 a2 a3 => ?_
                        have hag := e_nw_ag (ad := ad) (q := q) hlen
                        refine hS d y _ (e_lf h.length lo) (.ref h.length :: st2) (h ++ [x]) r hr p l e R s m args below meth c H1 locs (cells + 1) (slots + k) Q ls (e_nw ad h.length q) B0 bS D dA F G hbS ((hag _ (Or.inr rfl)).trans hsc) (by rw [e_lf_len]; exact hll) (hl.ag hag) a1 a2 a3 hf hlo (by simp only at hc; omega) (by simp only at hs; omega) ?_
                        have := hE.go hag (n1 := (h ++ [x]).length) (by simp) (Or.inr hgrow)
                        simp only at this ⊢
                        rw [Nat.add_assoc, Nat.add_assoc]
                        exact this
                      · cases hrun0
                    · split at hrun0
                      · next E h1 =>
                        split at hrun0
                        · next hq =>
                          obtain ⟨hn, hcat⟩ := hq
                          subst hn
                          cases hrun0
                          exact hE.2.1 E rfl ins pc (st.map (e_mv ad)) ls H locs ad cells slots h1 hd (by rw [e_mv_sum]; exact hcat) (by rw [hml, hl.1, hll]) ⟨e_ag.rf, fun _ => rfl⟩ hP hD hSS (Nat.le_refl _) (Nat.le_refl _)
                        · cases hrun0
                      · cases hrun0
theorem e_sound : ∀ n, e_S L xs n
  | 0 => fun d y pc lo st h res hr => by cases hr
  | n + 1 => e_step (e_sound n)
end E15
