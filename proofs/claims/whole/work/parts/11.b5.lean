/-! each call keeps it -/
set_option maxRecDepth 100000 in
set_option maxHeartbeats 4000000 in
theorem a_feed (l : Launch) (Z : rx_D) (xa ma lc : Nat) (lg : Nat → Int64) (x1 x2 : Int32) (W V : va_W) (hlt : l.stackTraces = false) (hJ : JI Z xa ma W V) : cal l Z xa ma lc lg y_LW_feed b_LW_feed 5 [(0, 10, 13, 13), (0, 10, 17, 15)] [.int x1, .int x2] y_MD_feed b_MD_feed 4 [.int x1, .int x2] W V := by
  obtain ⟨ef, rm, n, nF, c, b, cb, a, i, f, p, tok, a', j, g, rfl, rfl, rfl, rfl, ⟨⟨z1, z2, z3, z4, z5⟩, ⟨e1, e2, e3, e4, e5⟩, ⟨s1, s2, s3, s4⟩, ⟨t1, t2, t3⟩, ⟨u1, u2, u3, u4⟩, ⟨v1, v2⟩, D⟩⟩ := hJ
  obtain ⟨k, n', B', b', lg', v, q1, q2, q3, q4, q5, q6⟩ := p_feed 100000 n (f 26) b lg x1 x2 (by omega) s4 z4
  have h1 := bl_feed l Z a rm i f p tok lc lg x1 x2 (nI k) (nI n') B' lg' hlt (by simp only [s1]; exact q1)
  have h2 := bm_feed l Z a' j g x1 x2 v (nI k) (nI n') B' (by simp only [s2, s3]; exact q2)
  refine ⟨k, v, lg', _, _, h1, h2, fun h => by rw [q4 (nI_z3 q3 h)]; exact upL0_at lg v, ?_⟩
  rintro X' M' ⟨a2, g1, rfl⟩ ⟨a3, g2, rfl⟩
  refine ⟨⟨_, congrArg some (by rw [← g2])⟩, _, by rw [← g2]; exact bm_thrown l Z a3 _ _ (nI k) rfl, ?_⟩
  rintro M'' ⟨a4, g3, rfl⟩
  exact ⟨ef, rm, n', nF, c, b', cb, a2, _, _, _, _, a4, _, _, rfl, rfl, g1, g3.trans g2, ⟨⟨z1, z2, z3, q5, z5⟩, ⟨e1, e2, e3, e4, e5⟩, ⟨rfl, rfl, rfl, q6⟩, ⟨t1, t2, t3⟩, ⟨u1, u2, u3, u4⟩, ⟨v1, v2⟩, D⟩⟩
set_option maxRecDepth 100000 in
set_option maxHeartbeats 4000000 in
theorem a_byteAt (l : Launch) (Z : rx_D) (xa ma lc : Nat) (lg : Nat → Int64) (x1 : Int32) (W V : va_W) (hlt : l.stackTraces = false) (hJ : JI Z xa ma W V) : cal l Z xa ma lc lg y_LW_byteAt b_LW_byteAt 4 [(0, 9, 12, 21)] [.int x1] y_MD_byteAt b_MD_byteAt 2 [.int x1] W V := by
  obtain ⟨ef, rm, n, nF, c, b, cb, a, i, f, p, tok, a', j, g, rfl, rfl, rfl, rfl, ⟨⟨z1, z2, z3, z4, z5⟩, ⟨e1, e2, e3, e4, e5⟩, ⟨s1, s2, s3, s4⟩, ⟨t1, t2, t3⟩, ⟨u1, u2, u3, u4⟩, ⟨v1, v2⟩, D⟩⟩ := hJ
  obtain ⟨k, lg', v, q1, q2, q3, q4⟩ := p_byteAt 100000 lg x1 (i 5) (i 10) (i 42) (p 1) (p 2) (p 3) (p 4) (p 5) (p 6) (p 7) (f 20) (f 44) (j 4) (j 9) (j 10) (j 11) (g 0) (g 1) (g 2) (g 3) (g 4) (g 5) (g 8) D
  have h1 := bl_byteAt l Z a rm i f p tok lc lg x1 (nI k) lg' hlt q1
  have h2 := bm_byteAt l Z a' j g x1 v (nI k) q2
  refine ⟨k, v, lg', _, _, h1, h2, fun h => by rw [q4 (nI_z3 q3 h)]; exact upL0_at lg v, ?_⟩
  rintro X' M' ⟨a2, g1, rfl⟩ ⟨a3, g2, rfl⟩
  refine ⟨⟨_, congrArg some (by rw [← g2])⟩, _, by rw [← g2]; exact bm_thrown l Z a3 _ _ (nI k) rfl, ?_⟩
  rintro M'' ⟨a4, g3, rfl⟩
  exact ⟨ef, rm, n, nF, c, b, cb, a2, _, _, _, _, a4, _, _, rfl, rfl, g1, g3.trans g2, ⟨⟨z1, z2, z3, z4, z5⟩, ⟨e1, e2, e3, e4, e5⟩, ⟨s1, s2, s3, s4⟩, ⟨t1, t2, t3⟩, ⟨u1, u2, u3, u4⟩, ⟨v1, v2⟩, D⟩⟩
set_option maxRecDepth 100000 in
set_option maxHeartbeats 4000000 in
theorem a_block (l : Launch) (Z : rx_D) (xa ma lc : Nat) (lg : Nat → Int64) (x1 x2 : Int32) (W V : va_W) (hlt : l.stackTraces = false) (hJ : JI Z xa ma W V) : cal l Z xa ma lc lg y_LW_block b_LW_block 5 [(0, 10, 13, 21)] [.int x1, .int x2] y_MD_block b_MD_block 3 [.int x1, .int x2] W V := by
  obtain ⟨ef, rm, n, nF, c, b, cb, a, i, f, p, tok, a', j, g, rfl, rfl, rfl, rfl, ⟨⟨z1, z2, z3, z4, z5⟩, ⟨e1, e2, e3, e4, e5⟩, ⟨s1, s2, s3, s4⟩, ⟨t1, t2, t3⟩, ⟨u1, u2, u3, u4⟩, ⟨v1, v2⟩, D⟩⟩ := hJ
  obtain ⟨k, lg', v, q1, q2, q3, q4⟩ := p_block 100000 lg x1 x2 (i 5) (i 10) (i 42) (p 1) (p 2) (p 3) (p 4) (p 5) (p 6) (p 7) (f 20) (f 44) (j 4) (j 9) (j 10) (j 11) (g 0) (g 1) (g 2) (g 3) (g 4) (g 5) (g 8) D
  have h1 := bl_block l Z a rm i f p tok lc lg x1 x2 (nI k) lg' hlt q1
  have h2 := bm_block l Z a' j g x1 x2 v (nI k) q2
  refine ⟨k, v, lg', _, _, h1, h2, fun h => by rw [q4 (nI_z3 q3 h)]; exact upL0_at lg v, ?_⟩
  rintro X' M' ⟨a2, g1, rfl⟩ ⟨a3, g2, rfl⟩
  refine ⟨⟨_, congrArg some (by rw [← g2])⟩, _, by rw [← g2]; exact bm_thrown l Z a3 _ _ (nI k) rfl, ?_⟩
  rintro M'' ⟨a4, g3, rfl⟩
  exact ⟨ef, rm, n, nF, c, b, cb, a2, _, _, _, _, a4, _, _, rfl, rfl, g1, g3.trans g2, ⟨⟨z1, z2, z3, z4, z5⟩, ⟨e1, e2, e3, e4, e5⟩, ⟨s1, s2, s3, s4⟩, ⟨t1, t2, t3⟩, ⟨u1, u2, u3, u4⟩, ⟨v1, v2⟩, D⟩⟩
set_option maxRecDepth 100000 in
set_option maxHeartbeats 4000000 in
theorem a_feedCoded (l : Launch) (Z : rx_D) (xa ma lc : Nat) (lg : Nat → Int64) (x1 : Int32) (W V : va_W) (hlt : l.stackTraces = false) (hJ : JI Z xa ma W V) : cal l Z xa ma lc lg y_LW_feedCoded b_LW_feedCoded 4 [(0, 9, 12, 13), (0, 9, 15, 15)] [.int x1] y_MD_feedCoded b_MD_feedCoded 2 [.int x1] W V := by
  obtain ⟨ef, rm, n, nF, c, b, cb, a, i, f, p, tok, a', j, g, rfl, rfl, rfl, rfl, ⟨⟨z1, z2, z3, z4, z5⟩, ⟨e1, e2, e3, e4, e5⟩, ⟨s1, s2, s3, s4⟩, ⟨t1, t2, t3⟩, ⟨u1, u2, u3, u4⟩, ⟨v1, v2⟩, D⟩⟩ := hJ
  obtain ⟨k, n', C', M', cb', lg', v, q1, q2, q3, q4, q5⟩ := p_feedCoded 100000 nF cb (f 0) (g 12) lg x1 t3
  have h1 := bl_feedCoded l Z a rm i f p tok lc lg x1 (nI k) (nI n') C' lg' hlt (by simp only [t1]; exact q1)
  have h2 := bm_feedCoded l Z a' j g x1 v (nI k) (nI n') M' (by simp only [t2]; exact q2)
  refine ⟨k, v, lg', _, _, h1, h2, fun h => by rw [q4 (nI_z3 q3 h)]; exact upL0_at lg v, ?_⟩
  rintro X' M' ⟨a2, g1, rfl⟩ ⟨a3, g2, rfl⟩
  refine ⟨⟨_, congrArg some (by rw [← g2])⟩, _, by rw [← g2]; exact bm_thrown l Z a3 _ _ (nI k) rfl, ?_⟩
  rintro M'' ⟨a4, g3, rfl⟩
  exact ⟨ef, rm, n, n', c, b, cb', a2, _, _, _, _, a4, _, _, rfl, rfl, g1, g3.trans g2, ⟨⟨z1, z2, z3, z4, z5⟩, ⟨e1, e2, e3, e4, e5⟩, ⟨s1, s2, s3, s4⟩, ⟨rfl, rfl, q5⟩, ⟨u1, u2, u3, u4⟩, ⟨v1, v2⟩, D⟩⟩
set_option maxRecDepth 100000 in
set_option maxHeartbeats 4000000 in
theorem a_pass (l : Launch) (Z : rx_D) (xa ma lc : Nat) (lg : Nat → Int64) (x1 x2 : Int32) (W V : va_W) (hlt : l.stackTraces = false) (hJ : JI Z xa ma W V) : cal l Z xa ma lc lg y_LW_pass b_LW_pass 5 [(0, 10, 13, 21), (0, 10, 17, 13), (0, 10, 21, 15)] [.int x1, .int x2] y_MD_pass b_MD_pass 5 [.int x1, .int x2] W V := by
  obtain ⟨ef, rm, n, nF, c, b, cb, a, i, f, p, tok, a', j, g, rfl, rfl, rfl, rfl, ⟨⟨z1, z2, z3, z4, z5⟩, ⟨e1, e2, e3, e4, e5⟩, ⟨s1, s2, s3, s4⟩, ⟨t1, t2, t3⟩, ⟨u1, u2, u3, u4⟩, ⟨v1, v2⟩, D⟩⟩ := hJ
  obtain ⟨k, n', C', M', cb', lg', v, q1, q2, q3, q4, q5⟩ := p_pass 100000 nF cb (f 0) (g 12) lg x1 x2 (i 5) (i 10) (i 42) (p 1) (p 2) (p 3) (p 4) (p 5) (p 6) (p 7) (f 20) (f 44) (j 4) (j 9) (j 10) (j 11) (g 0) (g 1) (g 2) (g 3) (g 4) (g 5) (g 8) (by omega) t3 D
  have h1 := bl_pass l Z a rm i f p tok lc lg x1 x2 (nI k) (nI n') C' lg' hlt (by simp only [t1]; exact q1)
  have h2 := bm_pass l Z a' j g x1 x2 v (nI k) (nI n') M' (by simp only [t2]; exact q2)
  refine ⟨k, v, lg', _, _, h1, h2, fun h => by rw [q4 (nI_z3 q3 h)]; exact upL0_at lg v, ?_⟩
  rintro X' M' ⟨a2, g1, rfl⟩ ⟨a3, g2, rfl⟩
  refine ⟨⟨_, congrArg some (by rw [← g2])⟩, _, by rw [← g2]; exact bm_thrown l Z a3 _ _ (nI k) rfl, ?_⟩
  rintro M'' ⟨a4, g3, rfl⟩
  exact ⟨ef, rm, n, n', c, b, cb', a2, _, _, _, _, a4, _, _, rfl, rfl, g1, g3.trans g2, ⟨⟨z1, z2, z3, z4, z5⟩, ⟨e1, e2, e3, e4, e5⟩, ⟨s1, s2, s3, s4⟩, ⟨rfl, rfl, q5⟩, ⟨u1, u2, u3, u4⟩, ⟨v1, v2⟩, D⟩⟩
set_option maxRecDepth 100000 in
set_option maxHeartbeats 4000000 in
theorem a_alter (l : Launch) (Z : rx_D) (xa ma lc : Nat) (lg : Nat → Int64) (x1 x2 : Int32) (W V : va_W) (hlt : l.stackTraces = false) (hJ : JI Z xa ma W V) : cal l Z xa ma lc lg y_LW_alter b_LW_alter 5 [(0, 10, 13, 21), (0, 10, 17, 13)] [.int x1, .int x2] y_MD_alter b_MD_alter 4 [.int x1, .int x2] W V := by
  obtain ⟨ef, rm, n, nF, c, b, cb, a, i, f, p, tok, a', j, g, rfl, rfl, rfl, rfl, ⟨⟨z1, z2, z3, z4, z5⟩, ⟨e1, e2, e3, e4, e5⟩, ⟨s1, s2, s3, s4⟩, ⟨t1, t2, t3⟩, ⟨u1, u2, u3, u4⟩, ⟨v1, v2⟩, D⟩⟩ := hJ
  obtain ⟨k, C', M', cb', lg', v, q1, q2, q3, q4, q5⟩ := p_alter 100000 nF cb (f 0) (g 12) lg x1 x2 t3
  have h1 := bl_alter l Z a rm i f p tok lc lg x1 x2 (nI k) C' lg' hlt (by simp only [t1]; exact q1)
  have h2 := bm_alter l Z a' j g x1 x2 v (nI k) M' (by simp only [t2]; exact q2)
  refine ⟨k, v, lg', _, _, h1, h2, fun h => by rw [q4 (nI_z3 q3 h)]; exact upL0_at lg v, ?_⟩
  rintro X' M' ⟨a2, g1, rfl⟩ ⟨a3, g2, rfl⟩
  refine ⟨⟨_, congrArg some (by rw [← g2])⟩, _, by rw [← g2]; exact bm_thrown l Z a3 _ _ (nI k) rfl, ?_⟩
  rintro M'' ⟨a4, g3, rfl⟩
  exact ⟨ef, rm, n, nF, c, b, cb', a2, _, _, _, _, a4, _, _, rfl, rfl, g1, g3.trans g2, ⟨⟨z1, z2, z3, z4, z5⟩, ⟨e1, e2, e3, e4, e5⟩, ⟨s1, s2, s3, s4⟩, ⟨t1, t2, q5⟩, ⟨u1, u2, u3, u4⟩, ⟨v1, v2⟩, D⟩⟩
set_option maxRecDepth 100000 in
set_option maxHeartbeats 4000000 in
theorem a_out (l : Launch) (Z : rx_D) (xa ma lc : Nat) (lg : Nat → Int64) (x1 : Int32) (W V : va_W) (hlt : l.stackTraces = false) (hJ : JI Z xa ma W V) : cal l Z xa ma lc lg y_LW_out b_LW_out 4 [(0, 9, 12, 21)] [.int x1] y_MD_out b_MD_out 2 [.int x1] W V := by
  obtain ⟨ef, rm, n, nF, c, b, cb, a, i, f, p, tok, a', j, g, rfl, rfl, rfl, rfl, ⟨⟨z1, z2, z3, z4, z5⟩, ⟨e1, e2, e3, e4, e5⟩, ⟨s1, s2, s3, s4⟩, ⟨t1, t2, t3⟩, ⟨u1, u2, u3, u4⟩, ⟨v1, v2⟩, D⟩⟩ := hJ
  obtain ⟨k, lg', v, q1, q2, q3, q4⟩ := p_out 100000 rm c (f 33) (g 20) lg x1 z3 z5 u3
  have h1 := bl_out l Z a rm i f p tok lc lg x1 (nI k) lg' hlt (by simp only [u1]; exact q1)
  have h2 := bm_out l Z a' j g x1 v (nI k) (by simp only [u2]; exact q2)
  refine ⟨k, v, lg', _, _, h1, h2, fun h => by rw [q4 (nI_z3 q3 h)]; exact upL0_at lg v, ?_⟩
  rintro X' M' ⟨a2, g1, rfl⟩ ⟨a3, g2, rfl⟩
  refine ⟨⟨_, congrArg some (by rw [← g2])⟩, _, by rw [← g2]; exact bm_thrown l Z a3 _ _ (nI k) rfl, ?_⟩
  rintro M'' ⟨a4, g3, rfl⟩
  exact ⟨ef, rm, n, nF, c, b, cb, a2, _, _, _, _, a4, _, _, rfl, rfl, g1, g3.trans g2, ⟨⟨z1, z2, z3, z4, z5⟩, ⟨e1, e2, e3, e4, e5⟩, ⟨s1, s2, s3, s4⟩, ⟨t1, t2, t3⟩, ⟨u1, u2, u3, u4⟩, ⟨v1, v2⟩, D⟩⟩
set_option maxRecDepth 100000 in
set_option maxHeartbeats 4000000 in
theorem a_sum (l : Launch) (Z : rx_D) (xa ma lc : Nat) (lg : Nat → Int64) (x1 : Int32) (W V : va_W) (hlt : l.stackTraces = false) (hJ : JI Z xa ma W V) : cal l Z xa ma lc lg y_LW_sum b_LW_sum 4 [(0, 9, 12, 13)] [.int x1] y_MD_sum b_MD_sum 10 [.int x1] W V := by
  obtain ⟨ef, rm, n, nF, c, b, cb, a, i, f, p, tok, a', j, g, rfl, rfl, rfl, rfl, ⟨⟨z1, z2, z3, z4, z5⟩, ⟨e1, e2, e3, e4, e5⟩, ⟨s1, s2, s3, s4⟩, ⟨t1, t2, t3⟩, ⟨u1, u2, u3, u4⟩, ⟨v1, v2⟩, D⟩⟩ := hJ
  obtain ⟨k, lg', v, q1, q2, q3, q4⟩ := p_sum 100000 rm c n (f 26) (f 33) (g 20) lg x1 (by omega) z3 z5 u3 z4
  have h1 := bl_sum l Z a rm i f p tok lc lg x1 (nI k) lg' hlt (by simp only [s1, u1]; exact q1)
  have h2 := bm_sum l Z a' j g x1 v (nI k) (by simp only [s3, u2, s2]; exact q2)
  refine ⟨k, v, lg', _, _, h1, h2, fun h => by rw [q4 (nI_z3 q3 h)]; exact upL0_at lg v, ?_⟩
  rintro X' M' ⟨a2, g1, rfl⟩ ⟨a3, g2, rfl⟩
  refine ⟨⟨_, congrArg some (by rw [← g2])⟩, _, by rw [← g2]; exact bm_thrown l Z a3 _ _ (nI k) rfl, ?_⟩
  rintro M'' ⟨a4, g3, rfl⟩
  exact ⟨ef, rm, n, nF, c, b, cb, a2, _, _, _, _, a4, _, _, rfl, rfl, g1, g3.trans g2, ⟨⟨z1, z2, z3, z4, z5⟩, ⟨e1, e2, e3, e4, e5⟩, ⟨s1, s2, s3, s4⟩, ⟨t1, t2, t3⟩, ⟨u1, u2, u3, u4⟩, ⟨v1, v2⟩, D⟩⟩
set_option maxRecDepth 100000 in
set_option maxHeartbeats 4000000 in
theorem a_told (l : Launch) (Z : rx_D) (xa ma : Nat) (x1 : Int32) (W V : va_W) (hJ : JI Z xa ma W V) : cal0 l Z xa ma y_DE_told b_DE_told 2 2 [.int x1] y_MD_told b_MD_told 2 0 W V := by
  obtain ⟨ef, rm, n, nF, c, b, cb, a, i, f, p, tok, a', j, g, rfl, rfl, rfl, rfl, ⟨⟨z1, z2, z3, z4, z5⟩, ⟨e1, e2, e3, e4, e5⟩, ⟨s1, s2, s3, s4⟩, ⟨t1, t2, t3⟩, ⟨u1, u2, u3, u4⟩, ⟨v1, v2⟩, D⟩⟩ := hJ
  obtain ⟨v, q1, q2⟩ := p_told 100000 ef rm n nF c (i 20) x1 (i 5) (i 10) (i 42) (p 1) (p 2) (p 3) (p 4) (p 5) (p 6) (p 7) (f 20) (f 44) (j 4) (j 9) (j 10) (j 11) (g 0) (g 1) (g 2) (g 3) (g 4) (g 5) (g 8) (by omega) D
  have h1 := bx_told l Z a rm i f p tok x1 v (by simp only [t1, e1, s1, u1, e3]; exact q1)
  have h2 := bm_told l Z a' j g x1 v 0 (by simp only [e4, t2, u2, e5, s2, u4]; exact q2)
  refine ⟨v, _, _, h1, h2, ?_⟩
  rintro X' M' ⟨a2, g1, rfl⟩ ⟨a3, g2, rfl⟩
  exact ⟨ef, rm, n, nF, c, b, cb, a2, _, _, _, _, a3, _, _, rfl, rfl, g1, g2, ⟨⟨z1, z2, z3, z4, z5⟩, ⟨e1, e2, e3, e4, e5⟩, ⟨s1, s2, s3, s4⟩, ⟨t1, t2, t3⟩, ⟨u1, u2, u3, u4⟩, ⟨v1, v2⟩, D⟩⟩
set_option maxRecDepth 100000 in
set_option maxHeartbeats 4000000 in
theorem a_clear (l : Launch) (Z : rx_D) (xa ma : Nat) (W V : va_W) (hJ : JI Z xa ma W V) : ∃ (PX PM : va_W → Prop), Cn l Z y_DE_clear b_DE_clear 1 none 2 [.ref xa] W 0 0 (fun rr w => rr = none ∧ PX w) ∧ Cn l Z y_MD_clear b_MD_clear 1 none 0 [.ref ma] V 0 0 (fun rr w => rr = none ∧ PM w) ∧ ∀ X' M', PX X' → PM M' → JI Z xa ma X' M' := by
  obtain ⟨ef, rm, n, nF, c, b, cb, a, i, f, p, tok, a', j, g, rfl, rfl, rfl, rfl, ⟨⟨z1, z2, z3, z4, z5⟩, ⟨e1, e2, e3, e4, e5⟩, ⟨s1, s2, s3, s4⟩, ⟨t1, t2, t3⟩, ⟨u1, u2, u3, u4⟩, ⟨v1, v2⟩, D⟩⟩ := hJ
  obtain ⟨came9, b9, q1, q2, q3⟩ := p_clear 100000 (f 44) (by omega)
  have h1 := bx_clear l Z a rm i f p tok 0 0 0 0 0 m1 m1 b9 0 0 came9 q1
  have h2 := bm_clear l Z a' j g 0 0 0 0 0 m1 0 0 0 q3
  refine ⟨_, _, h1, h2, ?_⟩
  rintro X' M' ⟨a2, g1, rfl⟩ ⟨a3, g2, rfl⟩
  exact ⟨ef, rm, 0, 0, 0, b, cb, a2, _, _, _, _, a3, _, _, rfl, rfl, g1, g2, ⟨⟨z1, z2, z3, by omega, by omega⟩, ⟨e1, e2, e3, e4, e5⟩, ⟨rfl, rfl, s3, s4⟩, ⟨rfl, rfl, by omega, fun j hj => by omega⟩, ⟨rfl, rfl, fun j hj => by omega, rfl⟩, ⟨v1, v2⟩, dinv_0 _ _ _ _ _ _ _ _ _ _ _ _ _ _ _ _ q2⟩⟩
