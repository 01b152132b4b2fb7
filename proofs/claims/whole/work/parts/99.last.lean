theorem i_vc_select {k : Nat} {u : SX} {v : SY} (I : i_Rel k u v) (hk : k + 5 ≤ 2561) (v1 : Int32) : wpX_select (fun r u' => wpY_select (fun r' v' => r' = r ∧ i_Rel (k + 5) u' v') v v1) u v1 := by
  have I0 := I
  obtain ⟨L, n, w, len, fd, i, d, xlv, xop, sm, id, po, nm, vl, mv, rk, pt, sz, pd, xpa, xct, qx, co, se, pe, xgv, xan, xal, xng, rs, yli, yat, dp, yci, ycd, qy, ygv, yls, yor, yan, yno, yow, ypa, rfl, rfl, hL, hw, hf, B, N, Q⟩ := I
  have hn := B.1.2
  have Q0 := Q
  obtain ⟨q1, q2, q3, q4, q5, q6⟩ := Q0
  rcases qr_node (n := n) i v1 with ⟨r, hr, rfl⟩ | hm
  · by_cases h0 : len = 0
    · subst h0
      unfold wpX_select wpY_select
      dsimp only
      refine qr_hX B N hr (br_f (by decide) (br_t (by decide) (qr_hY B hr (br_f (nI_pos (by omega)) (br_t (by decide) ⟨rfl, I0⟩)))))
    · have G : qe_G qx len := q4 (by omega)
      have H : qs_H n i d id dp po rk pt sz len qx co se pe := ⟨B, N, q1, G, q3, q5, q6⟩
      refine qs_xsl H hr (by omega) (fun gv an al ng LC => ?_)
      have HY : qs_HY n i d id dp po len qx qy := ⟨B, q1, G, q3, q2⟩
      refine qs_ysl HY hr (by omega) LC (fun li at' gv' ls or' an' no' => ⟨rfl, ?_⟩)
      have hle := qs_K_le id vl (gv r) rs n
      exact qr_mk hL hw (by omega) B N Q
  · unfold wpX_select wpY_select
    dsimp only
    exact qr_mX N hm (br_t (by decide) (qr_mY B hm (br_t (by decide) ⟨rfl, I0⟩)))
