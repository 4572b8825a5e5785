/-! tables: classes by number (10: the law), field and method links by (class, index), method records -/
def zRn (n : Nat) : String := match n with
  | 0 => RX0
  | 1 => RX1
  | 2 => RX2
  | 3 => RX3
  | 4 => RX4
  | 5 => RX5
  | 6 => RX6
  | 7 => RX7
  | 8 => RX8
  | 9 => RX9
  | 11 => RJ0
  | 12 => RJ1
  | 13 => RJ3
  | _ => RL
def zFd (n : Nat) : u_T := match n with
  | 0 => TX0
  | 1 => TX1
  | 2 => TX2
  | 3 => TX3
  | 4 => TX4
  | 5 => TX5
  | 6 => TX6
  | 7 => TX7
  | 8 => TX8
  | _ => TX9
def zFn (n : Nat) : Nat := match n with
  | 0 => 6
  | 1 => 3
  | 2 => 4
  | 3 => 13
  | 4 => 5
  | 5 => 2
  | 6 => 14
  | 7 => 7
  | 8 => 11
  | 9 => 30
  | _ => 0
def zFt (n : Nat) : Nat → FieldType := match n with
  | 0 => tyX0
  | 1 => tyX1
  | 2 => tyX2
  | 3 => tyX3
  | 4 => tyX4
  | 5 => tyX5
  | 6 => tyX6
  | 7 => tyX7
  | 8 => tyX8
  | _ => tyX9
theorem zcl : ∀ ci, ci < 10 → vwCl[ci]? = some (zRn ci, zFd ci, zFn ci) := by
  intro ci h
  rcases (show ci = 0 ∨ ci = 1 ∨ ci = 2 ∨ ci = 3 ∨ ci = 4 ∨ ci = 5 ∨ ci = 6 ∨ ci = 7 ∨ ci = 8 ∨ ci = 9 by omega) with rfl | rfl | rfl | rfl | rfl | rfl | rfl | rfl | rfl | rfl <;> rfl
theorem zFt_ok : ∀ ci, ci < 10 → ∀ k, k < zFn ci → parseFieldDescriptor (zFd ci k).2.2.1 = some (zFt ci k) := by
  intro ci h
  rcases (show ci = 0 ∨ ci = 1 ∨ ci = 2 ∨ ci = 3 ∨ ci = 4 ∨ ci = 5 ∨ ci = 6 ∨ ci = 7 ∨ ci = 8 ∨ ci = 9 by omega) with rfl | rfl | rfl | rfl | rfl | rfl | rfl | rfl | rfl | rfl
  · exact tyX0_ok
  · exact tyX1_ok
  · exact tyX2_ok
  · exact tyX3_ok
  · exact tyX4_ok
  · exact tyX5_ok
  · exact tyX6_ok
  · exact tyX7_ok
  · exact tyX8_ok
  · exact tyX9_ok
theorem znm_ok : ∀ ci, ci < 10 → ∀ a, a < zFn ci → ∀ b, b < zFn ci → a ≠ b → (zFd ci a).2.1 ≠ (zFd ci b).2.1 := by
  intro ci h
  rcases (show ci = 0 ∨ ci = 1 ∨ ci = 2 ∨ ci = 3 ∨ ci = 4 ∨ ci = 5 ∨ ci = 6 ∨ ci = 7 ∨ ci = 8 ∨ ci = 9 by omega) with rfl | rfl | rfl | rfl | rfl | rfl | rfl | rfl | rfl | rfl
  · exact nmX0
  · exact nmX1
  · exact nmX2
  · exact nmX3
  · exact nmX4
  · exact nmX5
  · exact nmX6
  · exact nmX7
  · exact nmX8
  · exact nmX9
theorem zin_ok : ∀ ci, ci < 10 → ∀ w ∈ u_ws (zRn ci) (zFd ci) (zFn ci), w ∈ wsL_law := by
  intro ci h
  rcases (show ci = 0 ∨ ci = 1 ∨ ci = 2 ∨ ci = 3 ∨ ci = 4 ∨ ci = 5 ∨ ci = 6 ∨ ci = 7 ∨ ci = 8 ∨ ci = 9 by omega) with rfl | rfl | rfl | rfl | rfl | rfl | rfl | rfl | rfl | rfl
  · exact inlX0
  · exact inlX1
  · exact inlX2
  · exact inlX3
  · exact inlX4
  · exact inlX5
  · exact inlX6
  · exact inlX7
  · exact inlX8
  · exact inlX9
theorem ft_0_1 : zFt 0 1 = .int := rfl
theorem fd_0_1 : (zFd 0 1).2.2.2 = false := rfl
theorem ft_0_2 : zFt 0 2 = .int := rfl
theorem fd_0_2 : (zFd 0 2).2.2.2 = false := rfl
theorem ft_0_3 : zFt 0 3 = .int := rfl
theorem fd_0_3 : (zFd 0 3).2.2.2 = false := rfl
theorem ft_1_1 : zFt 1 1 = .int := rfl
theorem fd_1_1 : (zFd 1 1).2.2.2 = false := rfl
theorem ft_1_2 : zFt 1 2 = .int := rfl
theorem fd_1_2 : (zFd 1 2).2.2.2 = false := rfl
theorem ft_2_0 : zFt 2 0 = .int := rfl
theorem fd_2_0 : (zFd 2 0).2.2.2 = false := rfl
theorem ft_2_1 : zFt 2 1 = .int := rfl
theorem fd_2_1 : (zFd 2 1).2.2.2 = false := rfl
theorem ft_2_2 : zFt 2 2 = .int := rfl
theorem fd_2_2 : (zFd 2 2).2.2.2 = false := rfl
theorem ft_2_3 : zFt 2 3 = .int := rfl
theorem fd_2_3 : (zFd 2 3).2.2.2 = false := rfl
theorem ft_3_0 : zFt 3 0 = .int := rfl
theorem fd_3_0 : (zFd 3 0).2.2.2 = false := rfl
theorem ft_3_7 : zFt 3 7 = .int := rfl
theorem fd_3_7 : (zFd 3 7).2.2.2 = false := rfl
theorem ft_4_0 : zFt 4 0 = .int := rfl
theorem fd_4_0 : (zFd 4 0).2.2.2 = false := rfl
theorem ft_5_1 : zFt 5 1 = .int := rfl
theorem fd_5_1 : (zFd 5 1).2.2.2 = false := rfl
theorem ft_6_1 : zFt 6 1 = .int := rfl
theorem fd_6_1 : (zFd 6 1).2.2.2 = false := rfl
theorem ft_6_2 : zFt 6 2 = .int := rfl
theorem fd_6_2 : (zFd 6 2).2.2.2 = false := rfl
theorem ft_6_7 : zFt 6 7 = .int := rfl
theorem fd_6_7 : (zFd 6 7).2.2.2 = false := rfl
theorem ft_6_11 : zFt 6 11 = .int := rfl
theorem fd_6_11 : (zFd 6 11).2.2.2 = false := rfl
theorem ft_7_3 : zFt 7 3 = .int := rfl
theorem fd_7_3 : (zFd 7 3).2.2.2 = false := rfl
theorem ft_7_5 : zFt 7 5 = .int := rfl
theorem fd_7_5 : (zFd 7 5).2.2.2 = false := rfl
theorem ft_7_6 : zFt 7 6 = .int := rfl
theorem fd_7_6 : (zFd 7 6).2.2.2 = false := rfl
theorem ft_8_3 : zFt 8 3 = .boolean := rfl
theorem fd_8_3 : (zFd 8 3).2.2.2 = false := rfl
theorem ft_9_2 : zFt 9 2 = .boolean := rfl
theorem fd_9_2 : (zFd 9 2).2.2.2 = false := rfl
theorem ft_9_4 : zFt 9 4 = .int := rfl
theorem fd_9_4 : (zFd 9 4).2.2.2 = false := rfl
theorem ft_9_6 : zFt 9 6 = .boolean := rfl
theorem fd_9_6 : (zFd 9 6).2.2.2 = false := rfl
theorem ft_9_8 : zFt 9 8 = .int := rfl
theorem fd_9_8 : (zFd 9 8).2.2.2 = false := rfl
theorem ft_9_9 : zFt 9 9 = .int := rfl
theorem fd_9_9 : (zFd 9 9).2.2.2 = false := rfl
theorem ft_9_11 : zFt 9 11 = .int := rfl
theorem fd_9_11 : (zFd 9 11).2.2.2 = false := rfl
theorem ft_9_12 : zFt 9 12 = .int := rfl
theorem fd_9_12 : (zFd 9 12).2.2.2 = false := rfl
theorem ft_9_13 : zFt 9 13 = .int := rfl
theorem fd_9_13 : (zFd 9 13).2.2.2 = false := rfl
theorem ft_9_14 : zFt 9 14 = .int := rfl
theorem fd_9_14 : (zFd 9 14).2.2.2 = false := rfl
theorem ft_9_15 : zFt 9 15 = .int := rfl
theorem fd_9_15 : (zFd 9 15).2.2.2 = false := rfl
theorem ft_9_18 : zFt 9 18 = .int := rfl
theorem fd_9_18 : (zFd 9 18).2.2.2 = false := rfl
theorem ft_9_21 : zFt 9 21 = .int := rfl
theorem fd_9_21 : (zFd 9 21).2.2.2 = false := rfl
theorem ft_9_22 : zFt 9 22 = .int := rfl
theorem fd_9_22 : (zFd 9 22).2.2.2 = false := rfl
theorem ft_9_24 : zFt 9 24 = .int := rfl
theorem fd_9_24 : (zFd 9 24).2.2.2 = false := rfl
theorem ft_9_26 : zFt 9 26 = .int := rfl
theorem fd_9_26 : (zFd 9 26).2.2.2 = false := rfl
theorem ft_9_27 : zFt 9 27 = .int := rfl
theorem fd_9_27 : (zFd 9 27).2.2.2 = false := rfl
theorem ft_9_28 : zFt 9 28 = .boolean := rfl
theorem fd_9_28 : (zFd 9 28).2.2.2 = false := rfl
theorem zr_base : ∀ w ∈ wsL_law_r1 ++ (wsL_law_r2 ++ (wsL_law_r3 ++ (wsL_law_r4 ++ (wsL_law_r5 ++ (wsL_law_r6 ++ (wsL_law_r7 ++ (wsL_law_r8 ++ (wsL_law_r9 ++ (wsL_law_r10 ++ (wsL_law_r11 ++ (wsL_law_r12 ++ (wsL_law_r13 ++ (wsL_law_r14 ++ (wsL_law_r15 ++ (wsL_law_r16 ++ (wsL_law_r17 ++ (wsL_law_r18 ++ (wsL_law_r19 ++ (wsL_law_r20 ++ (wsL_law_r21 ++ (wsL_law_r22 ++ (wsL_law_r23 ++ (wsL_law_r24 ++ (wsL_law_r25 ++ (wsL_law_r26 ++ (wsL_law_r27 ++ (wsL_law_r28 ++ (wsL_law_r29 ++ (wsL_law_r30 ++ (wsL_law_r31 ++ (wsL_law_r32 ++ (wsL_law_r33 ++ (wsL_law_r34 ++ (wsL_law_r35 ++ (wsL_law_r36 ++ (wsL_law_r37 ++ (wsL_law_r38 ++ (wsL_law_r39 ++ (wsL_law_r40 ++ (wsL_law_r41 ++ (wsL_law_r42 ++ (wsL_law_r43 ++ (wsL_law_r44 ++ (wsL_law_r45 ++ (wsL_law_r46 ++ (wsL_law_r47 ++ (wsL_law_r48))))))))))))))))))))))))))))))))))))))))))))))), w ∈ wsL_law := by
  intro w h
  unfold wsL_law
  iterate 11 refine List.mem_append_left _ ?_
  exact h
theorem zr_1 : ∀ w ∈ wsL_law_r1, w ∈ wsL_law := fun w h => zr_base w (List.mem_append_left _ h)
theorem zr_2 : ∀ w ∈ wsL_law_r2, w ∈ wsL_law := fun w h => zr_base w (List.mem_append_right _ (List.mem_append_left _ h))
theorem zr_3 : ∀ w ∈ wsL_law_r3, w ∈ wsL_law := fun w h => zr_base w (List.mem_append_right _ (List.mem_append_right _ (List.mem_append_left _ h)))
theorem zr_4 : ∀ w ∈ wsL_law_r4, w ∈ wsL_law := fun w h => zr_base w (List.mem_append_right _ (List.mem_append_right _ (List.mem_append_right _ (List.mem_append_left _ h))))
theorem zr_5 : ∀ w ∈ wsL_law_r5, w ∈ wsL_law := fun w h => zr_base w (List.mem_append_right _ (List.mem_append_right _ (List.mem_append_right _ (List.mem_append_right _ (List.mem_append_left _ h)))))
theorem zr_6 : ∀ w ∈ wsL_law_r6, w ∈ wsL_law := fun w h => zr_base w (List.mem_append_right _ (List.mem_append_right _ (List.mem_append_right _ (List.mem_append_right _ (List.mem_append_right _ (List.mem_append_left _ h))))))
theorem zr_7 : ∀ w ∈ wsL_law_r7, w ∈ wsL_law := fun w h => zr_base w (List.mem_append_right _ (List.mem_append_right _ (List.mem_append_right _ (List.mem_append_right _ (List.mem_append_right _ (List.mem_append_right _ (List.mem_append_left _ h)))))))
theorem zr_8 : ∀ w ∈ wsL_law_r8, w ∈ wsL_law := fun w h => zr_base w (List.mem_append_right _ (List.mem_append_right _ (List.mem_append_right _ (List.mem_append_right _ (List.mem_append_right _ (List.mem_append_right _ (List.mem_append_right _ (List.mem_append_left _ h))))))))
theorem zr_9 : ∀ w ∈ wsL_law_r9, w ∈ wsL_law := fun w h => zr_base w (List.mem_append_right _ (List.mem_append_right _ (List.mem_append_right _ (List.mem_append_right _ (List.mem_append_right _ (List.mem_append_right _ (List.mem_append_right _ (List.mem_append_right _ (List.mem_append_left _ h)))))))))
theorem zr_10 : ∀ w ∈ wsL_law_r10, w ∈ wsL_law := fun w h => zr_base w (List.mem_append_right _ (List.mem_append_right _ (List.mem_append_right _ (List.mem_append_right _ (List.mem_append_right _ (List.mem_append_right _ (List.mem_append_right _ (List.mem_append_right _ (List.mem_append_right _ (List.mem_append_left _ h))))))))))
theorem zr_11 : ∀ w ∈ wsL_law_r11, w ∈ wsL_law := fun w h => zr_base w (List.mem_append_right _ (List.mem_append_right _ (List.mem_append_right _ (List.mem_append_right _ (List.mem_append_right _ (List.mem_append_right _ (List.mem_append_right _ (List.mem_append_right _ (List.mem_append_right _ (List.mem_append_right _ (List.mem_append_left _ h)))))))))))
theorem zr_12 : ∀ w ∈ wsL_law_r12, w ∈ wsL_law := fun w h => zr_base w (List.mem_append_right _ (List.mem_append_right _ (List.mem_append_right _ (List.mem_append_right _ (List.mem_append_right _ (List.mem_append_right _ (List.mem_append_right _ (List.mem_append_right _ (List.mem_append_right _ (List.mem_append_right _ (List.mem_append_right _ (List.mem_append_left _ h))))))))))))
theorem zr_13 : ∀ w ∈ wsL_law_r13, w ∈ wsL_law := fun w h => zr_base w (List.mem_append_right _ (List.mem_append_right _ (List.mem_append_right _ (List.mem_append_right _ (List.mem_append_right _ (List.mem_append_right _ (List.mem_append_right _ (List.mem_append_right _ (List.mem_append_right _ (List.mem_append_right _ (List.mem_append_right _ (List.mem_append_right _ (List.mem_append_left _ h)))))))))))))
theorem zr_14 : ∀ w ∈ wsL_law_r14, w ∈ wsL_law := fun w h => zr_base w (List.mem_append_right _ (List.mem_append_right _ (List.mem_append_right _ (List.mem_append_right _ (List.mem_append_right _ (List.mem_append_right _ (List.mem_append_right _ (List.mem_append_right _ (List.mem_append_right _ (List.mem_append_right _ (List.mem_append_right _ (List.mem_append_right _ (List.mem_append_right _ (List.mem_append_left _ h))))))))))))))
theorem zr_15 : ∀ w ∈ wsL_law_r15, w ∈ wsL_law := fun w h => zr_base w (List.mem_append_right _ (List.mem_append_right _ (List.mem_append_right _ (List.mem_append_right _ (List.mem_append_right _ (List.mem_append_right _ (List.mem_append_right _ (List.mem_append_right _ (List.mem_append_right _ (List.mem_append_right _ (List.mem_append_right _ (List.mem_append_right _ (List.mem_append_right _ (List.mem_append_right _ (List.mem_append_left _ h)))))))))))))))
theorem zr_16 : ∀ w ∈ wsL_law_r16, w ∈ wsL_law := fun w h => zr_base w (List.mem_append_right _ (List.mem_append_right _ (List.mem_append_right _ (List.mem_append_right _ (List.mem_append_right _ (List.mem_append_right _ (List.mem_append_right _ (List.mem_append_right _ (List.mem_append_right _ (List.mem_append_right _ (List.mem_append_right _ (List.mem_append_right _ (List.mem_append_right _ (List.mem_append_right _ (List.mem_append_right _ (List.mem_append_left _ h))))))))))))))))
theorem zr_17 : ∀ w ∈ wsL_law_r17, w ∈ wsL_law := fun w h => zr_base w (List.mem_append_right _ (List.mem_append_right _ (List.mem_append_right _ (List.mem_append_right _ (List.mem_append_right _ (List.mem_append_right _ (List.mem_append_right _ (List.mem_append_right _ (List.mem_append_right _ (List.mem_append_right _ (List.mem_append_right _ (List.mem_append_right _ (List.mem_append_right _ (List.mem_append_right _ (List.mem_append_right _ (List.mem_append_right _ (List.mem_append_left _ h)))))))))))))))))
theorem zr_18 : ∀ w ∈ wsL_law_r18, w ∈ wsL_law := fun w h => zr_base w (List.mem_append_right _ (List.mem_append_right _ (List.mem_append_right _ (List.mem_append_right _ (List.mem_append_right _ (List.mem_append_right _ (List.mem_append_right _ (List.mem_append_right _ (List.mem_append_right _ (List.mem_append_right _ (List.mem_append_right _ (List.mem_append_right _ (List.mem_append_right _ (List.mem_append_right _ (List.mem_append_right _ (List.mem_append_right _ (List.mem_append_right _ (List.mem_append_left _ h))))))))))))))))))
theorem zr_19 : ∀ w ∈ wsL_law_r19, w ∈ wsL_law := fun w h => zr_base w (List.mem_append_right _ (List.mem_append_right _ (List.mem_append_right _ (List.mem_append_right _ (List.mem_append_right _ (List.mem_append_right _ (List.mem_append_right _ (List.mem_append_right _ (List.mem_append_right _ (List.mem_append_right _ (List.mem_append_right _ (List.mem_append_right _ (List.mem_append_right _ (List.mem_append_right _ (List.mem_append_right _ (List.mem_append_right _ (List.mem_append_right _ (List.mem_append_right _ (List.mem_append_left _ h)))))))))))))))))))
theorem zr_20 : ∀ w ∈ wsL_law_r20, w ∈ wsL_law := fun w h => zr_base w (List.mem_append_right _ (List.mem_append_right _ (List.mem_append_right _ (List.mem_append_right _ (List.mem_append_right _ (List.mem_append_right _ (List.mem_append_right _ (List.mem_append_right _ (List.mem_append_right _ (List.mem_append_right _ (List.mem_append_right _ (List.mem_append_right _ (List.mem_append_right _ (List.mem_append_right _ (List.mem_append_right _ (List.mem_append_right _ (List.mem_append_right _ (List.mem_append_right _ (List.mem_append_right _ (List.mem_append_left _ h))))))))))))))))))))
theorem zr_21 : ∀ w ∈ wsL_law_r21, w ∈ wsL_law := fun w h => zr_base w (List.mem_append_right _ (List.mem_append_right _ (List.mem_append_right _ (List.mem_append_right _ (List.mem_append_right _ (List.mem_append_right _ (List.mem_append_right _ (List.mem_append_right _ (List.mem_append_right _ (List.mem_append_right _ (List.mem_append_right _ (List.mem_append_right _ (List.mem_append_right _ (List.mem_append_right _ (List.mem_append_right _ (List.mem_append_right _ (List.mem_append_right _ (List.mem_append_right _ (List.mem_append_right _ (List.mem_append_right _ (List.mem_append_left _ h)))))))))))))))))))))
theorem zr_22 : ∀ w ∈ wsL_law_r22, w ∈ wsL_law := fun w h => zr_base w (List.mem_append_right _ (List.mem_append_right _ (List.mem_append_right _ (List.mem_append_right _ (List.mem_append_right _ (List.mem_append_right _ (List.mem_append_right _ (List.mem_append_right _ (List.mem_append_right _ (List.mem_append_right _ (List.mem_append_right _ (List.mem_append_right _ (List.mem_append_right _ (List.mem_append_right _ (List.mem_append_right _ (List.mem_append_right _ (List.mem_append_right _ (List.mem_append_right _ (List.mem_append_right _ (List.mem_append_right _ (List.mem_append_right _ (List.mem_append_left _ h))))))))))))))))))))))
theorem zr_23 : ∀ w ∈ wsL_law_r23, w ∈ wsL_law := fun w h => zr_base w (List.mem_append_right _ (List.mem_append_right _ (List.mem_append_right _ (List.mem_append_right _ (List.mem_append_right _ (List.mem_append_right _ (List.mem_append_right _ (List.mem_append_right _ (List.mem_append_right _ (List.mem_append_right _ (List.mem_append_right _ (List.mem_append_right _ (List.mem_append_right _ (List.mem_append_right _ (List.mem_append_right _ (List.mem_append_right _ (List.mem_append_right _ (List.mem_append_right _ (List.mem_append_right _ (List.mem_append_right _ (List.mem_append_right _ (List.mem_append_right _ (List.mem_append_left _ h)))))))))))))))))))))))
theorem zr_24 : ∀ w ∈ wsL_law_r24, w ∈ wsL_law := fun w h => zr_base w (List.mem_append_right _ (List.mem_append_right _ (List.mem_append_right _ (List.mem_append_right _ (List.mem_append_right _ (List.mem_append_right _ (List.mem_append_right _ (List.mem_append_right _ (List.mem_append_right _ (List.mem_append_right _ (List.mem_append_right _ (List.mem_append_right _ (List.mem_append_right _ (List.mem_append_right _ (List.mem_append_right _ (List.mem_append_right _ (List.mem_append_right _ (List.mem_append_right _ (List.mem_append_right _ (List.mem_append_right _ (List.mem_append_right _ (List.mem_append_right _ (List.mem_append_right _ (List.mem_append_left _ h))))))))))))))))))))))))
theorem zr_25 : ∀ w ∈ wsL_law_r25, w ∈ wsL_law := fun w h => zr_base w (List.mem_append_right _ (List.mem_append_right _ (List.mem_append_right _ (List.mem_append_right _ (List.mem_append_right _ (List.mem_append_right _ (List.mem_append_right _ (List.mem_append_right _ (List.mem_append_right _ (List.mem_append_right _ (List.mem_append_right _ (List.mem_append_right _ (List.mem_append_right _ (List.mem_append_right _ (List.mem_append_right _ (List.mem_append_right _ (List.mem_append_right _ (List.mem_append_right _ (List.mem_append_right _ (List.mem_append_right _ (List.mem_append_right _ (List.mem_append_right _ (List.mem_append_right _ (List.mem_append_right _ (List.mem_append_left _ h)))))))))))))))))))))))))
theorem zr_26 : ∀ w ∈ wsL_law_r26, w ∈ wsL_law := fun w h => zr_base w (List.mem_append_right _ (List.mem_append_right _ (List.mem_append_right _ (List.mem_append_right _ (List.mem_append_right _ (List.mem_append_right _ (List.mem_append_right _ (List.mem_append_right _ (List.mem_append_right _ (List.mem_append_right _ (List.mem_append_right _ (List.mem_append_right _ (List.mem_append_right _ (List.mem_append_right _ (List.mem_append_right _ (List.mem_append_right _ (List.mem_append_right _ (List.mem_append_right _ (List.mem_append_right _ (List.mem_append_right _ (List.mem_append_right _ (List.mem_append_right _ (List.mem_append_right _ (List.mem_append_right _ (List.mem_append_right _ (List.mem_append_left _ h))))))))))))))))))))))))))
theorem zr_27 : ∀ w ∈ wsL_law_r27, w ∈ wsL_law := fun w h => zr_base w (List.mem_append_right _ (List.mem_append_right _ (List.mem_append_right _ (List.mem_append_right _ (List.mem_append_right _ (List.mem_append_right _ (List.mem_append_right _ (List.mem_append_right _ (List.mem_append_right _ (List.mem_append_right _ (List.mem_append_right _ (List.mem_append_right _ (List.mem_append_right _ (List.mem_append_right _ (List.mem_append_right _ (List.mem_append_right _ (List.mem_append_right _ (List.mem_append_right _ (List.mem_append_right _ (List.mem_append_right _ (List.mem_append_right _ (List.mem_append_right _ (List.mem_append_right _ (List.mem_append_right _ (List.mem_append_right _ (List.mem_append_right _ (List.mem_append_left _ h)))))))))))))))))))))))))))
theorem zr_28 : ∀ w ∈ wsL_law_r28, w ∈ wsL_law := fun w h => zr_base w (List.mem_append_right _ (List.mem_append_right _ (List.mem_append_right _ (List.mem_append_right _ (List.mem_append_right _ (List.mem_append_right _ (List.mem_append_right _ (List.mem_append_right _ (List.mem_append_right _ (List.mem_append_right _ (List.mem_append_right _ (List.mem_append_right _ (List.mem_append_right _ (List.mem_append_right _ (List.mem_append_right _ (List.mem_append_right _ (List.mem_append_right _ (List.mem_append_right _ (List.mem_append_right _ (List.mem_append_right _ (List.mem_append_right _ (List.mem_append_right _ (List.mem_append_right _ (List.mem_append_right _ (List.mem_append_right _ (List.mem_append_right _ (List.mem_append_right _ (List.mem_append_left _ h))))))))))))))))))))))))))))
theorem zr_29 : ∀ w ∈ wsL_law_r29, w ∈ wsL_law := fun w h => zr_base w (List.mem_append_right _ (List.mem_append_right _ (List.mem_append_right _ (List.mem_append_right _ (List.mem_append_right _ (List.mem_append_right _ (List.mem_append_right _ (List.mem_append_right _ (List.mem_append_right _ (List.mem_append_right _ (List.mem_append_right _ (List.mem_append_right _ (List.mem_append_right _ (List.mem_append_right _ (List.mem_append_right _ (List.mem_append_right _ (List.mem_append_right _ (List.mem_append_right _ (List.mem_append_right _ (List.mem_append_right _ (List.mem_append_right _ (List.mem_append_right _ (List.mem_append_right _ (List.mem_append_right _ (List.mem_append_right _ (List.mem_append_right _ (List.mem_append_right _ (List.mem_append_right _ (List.mem_append_left _ h)))))))))))))))))))))))))))))
theorem zr_30 : ∀ w ∈ wsL_law_r30, w ∈ wsL_law := fun w h => zr_base w (List.mem_append_right _ (List.mem_append_right _ (List.mem_append_right _ (List.mem_append_right _ (List.mem_append_right _ (List.mem_append_right _ (List.mem_append_right _ (List.mem_append_right _ (List.mem_append_right _ (List.mem_append_right _ (List.mem_append_right _ (List.mem_append_right _ (List.mem_append_right _ (List.mem_append_right _ (List.mem_append_right _ (List.mem_append_right _ (List.mem_append_right _ (List.mem_append_right _ (List.mem_append_right _ (List.mem_append_right _ (List.mem_append_right _ (List.mem_append_right _ (List.mem_append_right _ (List.mem_append_right _ (List.mem_append_right _ (List.mem_append_right _ (List.mem_append_right _ (List.mem_append_right _ (List.mem_append_right _ (List.mem_append_left _ h))))))))))))))))))))))))))))))
theorem zr_31 : ∀ w ∈ wsL_law_r31, w ∈ wsL_law := fun w h => zr_base w (List.mem_append_right _ (List.mem_append_right _ (List.mem_append_right _ (List.mem_append_right _ (List.mem_append_right _ (List.mem_append_right _ (List.mem_append_right _ (List.mem_append_right _ (List.mem_append_right _ (List.mem_append_right _ (List.mem_append_right _ (List.mem_append_right _ (List.mem_append_right _ (List.mem_append_right _ (List.mem_append_right _ (List.mem_append_right _ (List.mem_append_right _ (List.mem_append_right _ (List.mem_append_right _ (List.mem_append_right _ (List.mem_append_right _ (List.mem_append_right _ (List.mem_append_right _ (List.mem_append_right _ (List.mem_append_right _ (List.mem_append_right _ (List.mem_append_right _ (List.mem_append_right _ (List.mem_append_right _ (List.mem_append_right _ (List.mem_append_left _ h)))))))))))))))))))))))))))))))
theorem zr_32 : ∀ w ∈ wsL_law_r32, w ∈ wsL_law := fun w h => zr_base w (List.mem_append_right _ (List.mem_append_right _ (List.mem_append_right _ (List.mem_append_right _ (List.mem_append_right _ (List.mem_append_right _ (List.mem_append_right _ (List.mem_append_right _ (List.mem_append_right _ (List.mem_append_right _ (List.mem_append_right _ (List.mem_append_right _ (List.mem_append_right _ (List.mem_append_right _ (List.mem_append_right _ (List.mem_append_right _ (List.mem_append_right _ (List.mem_append_right _ (List.mem_append_right _ (List.mem_append_right _ (List.mem_append_right _ (List.mem_append_right _ (List.mem_append_right _ (List.mem_append_right _ (List.mem_append_right _ (List.mem_append_right _ (List.mem_append_right _ (List.mem_append_right _ (List.mem_append_right _ (List.mem_append_right _ (List.mem_append_right _ (List.mem_append_left _ h))))))))))))))))))))))))))))))))
theorem zr_33 : ∀ w ∈ wsL_law_r33, w ∈ wsL_law := fun w h => zr_base w (List.mem_append_right _ (List.mem_append_right _ (List.mem_append_right _ (List.mem_append_right _ (List.mem_append_right _ (List.mem_append_right _ (List.mem_append_right _ (List.mem_append_right _ (List.mem_append_right _ (List.mem_append_right _ (List.mem_append_right _ (List.mem_append_right _ (List.mem_append_right _ (List.mem_append_right _ (List.mem_append_right _ (List.mem_append_right _ (List.mem_append_right _ (List.mem_append_right _ (List.mem_append_right _ (List.mem_append_right _ (List.mem_append_right _ (List.mem_append_right _ (List.mem_append_right _ (List.mem_append_right _ (List.mem_append_right _ (List.mem_append_right _ (List.mem_append_right _ (List.mem_append_right _ (List.mem_append_right _ (List.mem_append_right _ (List.mem_append_right _ (List.mem_append_right _ (List.mem_append_left _ h)))))))))))))))))))))))))))))))))
theorem zr_34 : ∀ w ∈ wsL_law_r34, w ∈ wsL_law := fun w h => zr_base w (List.mem_append_right _ (List.mem_append_right _ (List.mem_append_right _ (List.mem_append_right _ (List.mem_append_right _ (List.mem_append_right _ (List.mem_append_right _ (List.mem_append_right _ (List.mem_append_right _ (List.mem_append_right _ (List.mem_append_right _ (List.mem_append_right _ (List.mem_append_right _ (List.mem_append_right _ (List.mem_append_right _ (List.mem_append_right _ (List.mem_append_right _ (List.mem_append_right _ (List.mem_append_right _ (List.mem_append_right _ (List.mem_append_right _ (List.mem_append_right _ (List.mem_append_right _ (List.mem_append_right _ (List.mem_append_right _ (List.mem_append_right _ (List.mem_append_right _ (List.mem_append_right _ (List.mem_append_right _ (List.mem_append_right _ (List.mem_append_right _ (List.mem_append_right _ (List.mem_append_right _ (List.mem_append_left _ h))))))))))))))))))))))))))))))))))
theorem zr_35 : ∀ w ∈ wsL_law_r35, w ∈ wsL_law := fun w h => zr_base w (List.mem_append_right _ (List.mem_append_right _ (List.mem_append_right _ (List.mem_append_right _ (List.mem_append_right _ (List.mem_append_right _ (List.mem_append_right _ (List.mem_append_right _ (List.mem_append_right _ (List.mem_append_right _ (List.mem_append_right _ (List.mem_append_right _ (List.mem_append_right _ (List.mem_append_right _ (List.mem_append_right _ (List.mem_append_right _ (List.mem_append_right _ (List.mem_append_right _ (List.mem_append_right _ (List.mem_append_right _ (List.mem_append_right _ (List.mem_append_right _ (List.mem_append_right _ (List.mem_append_right _ (List.mem_append_right _ (List.mem_append_right _ (List.mem_append_right _ (List.mem_append_right _ (List.mem_append_right _ (List.mem_append_right _ (List.mem_append_right _ (List.mem_append_right _ (List.mem_append_right _ (List.mem_append_right _ (List.mem_append_left _ h)))))))))))))))))))))))))))))))))))
theorem zr_36 : ∀ w ∈ wsL_law_r36, w ∈ wsL_law := fun w h => zr_base w (List.mem_append_right _ (List.mem_append_right _ (List.mem_append_right _ (List.mem_append_right _ (List.mem_append_right _ (List.mem_append_right _ (List.mem_append_right _ (List.mem_append_right _ (List.mem_append_right _ (List.mem_append_right _ (List.mem_append_right _ (List.mem_append_right _ (List.mem_append_right _ (List.mem_append_right _ (List.mem_append_right _ (List.mem_append_right _ (List.mem_append_right _ (List.mem_append_right _ (List.mem_append_right _ (List.mem_append_right _ (List.mem_append_right _ (List.mem_append_right _ (List.mem_append_right _ (List.mem_append_right _ (List.mem_append_right _ (List.mem_append_right _ (List.mem_append_right _ (List.mem_append_right _ (List.mem_append_right _ (List.mem_append_right _ (List.mem_append_right _ (List.mem_append_right _ (List.mem_append_right _ (List.mem_append_right _ (List.mem_append_right _ (List.mem_append_left _ h))))))))))))))))))))))))))))))))))))
theorem zr_37 : ∀ w ∈ wsL_law_r37, w ∈ wsL_law := fun w h => zr_base w (List.mem_append_right _ (List.mem_append_right _ (List.mem_append_right _ (List.mem_append_right _ (List.mem_append_right _ (List.mem_append_right _ (List.mem_append_right _ (List.mem_append_right _ (List.mem_append_right _ (List.mem_append_right _ (List.mem_append_right _ (List.mem_append_right _ (List.mem_append_right _ (List.mem_append_right _ (List.mem_append_right _ (List.mem_append_right _ (List.mem_append_right _ (List.mem_append_right _ (List.mem_append_right _ (List.mem_append_right _ (List.mem_append_right _ (List.mem_append_right _ (List.mem_append_right _ (List.mem_append_right _ (List.mem_append_right _ (List.mem_append_right _ (List.mem_append_right _ (List.mem_append_right _ (List.mem_append_right _ (List.mem_append_right _ (List.mem_append_right _ (List.mem_append_right _ (List.mem_append_right _ (List.mem_append_right _ (List.mem_append_right _ (List.mem_append_right _ (List.mem_append_left _ h)))))))))))))))))))))))))))))))))))))
theorem zr_38 : ∀ w ∈ wsL_law_r38, w ∈ wsL_law := fun w h => zr_base w (List.mem_append_right _ (List.mem_append_right _ (List.mem_append_right _ (List.mem_append_right _ (List.mem_append_right _ (List.mem_append_right _ (List.mem_append_right _ (List.mem_append_right _ (List.mem_append_right _ (List.mem_append_right _ (List.mem_append_right _ (List.mem_append_right _ (List.mem_append_right _ (List.mem_append_right _ (List.mem_append_right _ (List.mem_append_right _ (List.mem_append_right _ (List.mem_append_right _ (List.mem_append_right _ (List.mem_append_right _ (List.mem_append_right _ (List.mem_append_right _ (List.mem_append_right _ (List.mem_append_right _ (List.mem_append_right _ (List.mem_append_right _ (List.mem_append_right _ (List.mem_append_right _ (List.mem_append_right _ (List.mem_append_right _ (List.mem_append_right _ (List.mem_append_right _ (List.mem_append_right _ (List.mem_append_right _ (List.mem_append_right _ (List.mem_append_right _ (List.mem_append_right _ (List.mem_append_left _ h))))))))))))))))))))))))))))))))))))))
theorem zr_39 : ∀ w ∈ wsL_law_r39, w ∈ wsL_law := fun w h => zr_base w (List.mem_append_right _ (List.mem_append_right _ (List.mem_append_right _ (List.mem_append_right _ (List.mem_append_right _ (List.mem_append_right _ (List.mem_append_right _ (List.mem_append_right _ (List.mem_append_right _ (List.mem_append_right _ (List.mem_append_right _ (List.mem_append_right _ (List.mem_append_right _ (List.mem_append_right _ (List.mem_append_right _ (List.mem_append_right _ (List.mem_append_right _ (List.mem_append_right _ (List.mem_append_right _ (List.mem_append_right _ (List.mem_append_right _ (List.mem_append_right _ (List.mem_append_right _ (List.mem_append_right _ (List.mem_append_right _ (List.mem_append_right _ (List.mem_append_right _ (List.mem_append_right _ (List.mem_append_right _ (List.mem_append_right _ (List.mem_append_right _ (List.mem_append_right _ (List.mem_append_right _ (List.mem_append_right _ (List.mem_append_right _ (List.mem_append_right _ (List.mem_append_right _ (List.mem_append_right _ (List.mem_append_left _ h)))))))))))))))))))))))))))))))))))))))
theorem zr_40 : ∀ w ∈ wsL_law_r40, w ∈ wsL_law := fun w h => zr_base w (List.mem_append_right _ (List.mem_append_right _ (List.mem_append_right _ (List.mem_append_right _ (List.mem_append_right _ (List.mem_append_right _ (List.mem_append_right _ (List.mem_append_right _ (List.mem_append_right _ (List.mem_append_right _ (List.mem_append_right _ (List.mem_append_right _ (List.mem_append_right _ (List.mem_append_right _ (List.mem_append_right _ (List.mem_append_right _ (List.mem_append_right _ (List.mem_append_right _ (List.mem_append_right _ (List.mem_append_right _ (List.mem_append_right _ (List.mem_append_right _ (List.mem_append_right _ (List.mem_append_right _ (List.mem_append_right _ (List.mem_append_right _ (List.mem_append_right _ (List.mem_append_right _ (List.mem_append_right _ (List.mem_append_right _ (List.mem_append_right _ (List.mem_append_right _ (List.mem_append_right _ (List.mem_append_right _ (List.mem_append_right _ (List.mem_append_right _ (List.mem_append_right _ (List.mem_append_right _ (List.mem_append_right _ (List.mem_append_left _ h))))))))))))))))))))))))))))))))))))))))
theorem zr_41 : ∀ w ∈ wsL_law_r41, w ∈ wsL_law := fun w h => zr_base w (List.mem_append_right _ (List.mem_append_right _ (List.mem_append_right _ (List.mem_append_right _ (List.mem_append_right _ (List.mem_append_right _ (List.mem_append_right _ (List.mem_append_right _ (List.mem_append_right _ (List.mem_append_right _ (List.mem_append_right _ (List.mem_append_right _ (List.mem_append_right _ (List.mem_append_right _ (List.mem_append_right _ (List.mem_append_right _ (List.mem_append_right _ (List.mem_append_right _ (List.mem_append_right _ (List.mem_append_right _ (List.mem_append_right _ (List.mem_append_right _ (List.mem_append_right _ (List.mem_append_right _ (List.mem_append_right _ (List.mem_append_right _ (List.mem_append_right _ (List.mem_append_right _ (List.mem_append_right _ (List.mem_append_right _ (List.mem_append_right _ (List.mem_append_right _ (List.mem_append_right _ (List.mem_append_right _ (List.mem_append_right _ (List.mem_append_right _ (List.mem_append_right _ (List.mem_append_right _ (List.mem_append_right _ (List.mem_append_right _ (List.mem_append_left _ h)))))))))))))))))))))))))))))))))))))))))
theorem zr_42 : ∀ w ∈ wsL_law_r42, w ∈ wsL_law := fun w h => zr_base w (List.mem_append_right _ (List.mem_append_right _ (List.mem_append_right _ (List.mem_append_right _ (List.mem_append_right _ (List.mem_append_right _ (List.mem_append_right _ (List.mem_append_right _ (List.mem_append_right _ (List.mem_append_right _ (List.mem_append_right _ (List.mem_append_right _ (List.mem_append_right _ (List.mem_append_right _ (List.mem_append_right _ (List.mem_append_right _ (List.mem_append_right _ (List.mem_append_right _ (List.mem_append_right _ (List.mem_append_right _ (List.mem_append_right _ (List.mem_append_right _ (List.mem_append_right _ (List.mem_append_right _ (List.mem_append_right _ (List.mem_append_right _ (List.mem_append_right _ (List.mem_append_right _ (List.mem_append_right _ (List.mem_append_right _ (List.mem_append_right _ (List.mem_append_right _ (List.mem_append_right _ (List.mem_append_right _ (List.mem_append_right _ (List.mem_append_right _ (List.mem_append_right _ (List.mem_append_right _ (List.mem_append_right _ (List.mem_append_right _ (List.mem_append_right _ (List.mem_append_left _ h))))))))))))))))))))))))))))))))))))))))))
theorem zr_43 : ∀ w ∈ wsL_law_r43, w ∈ wsL_law := fun w h => zr_base w (List.mem_append_right _ (List.mem_append_right _ (List.mem_append_right _ (List.mem_append_right _ (List.mem_append_right _ (List.mem_append_right _ (List.mem_append_right _ (List.mem_append_right _ (List.mem_append_right _ (List.mem_append_right _ (List.mem_append_right _ (List.mem_append_right _ (List.mem_append_right _ (List.mem_append_right _ (List.mem_append_right _ (List.mem_append_right _ (List.mem_append_right _ (List.mem_append_right _ (List.mem_append_right _ (List.mem_append_right _ (List.mem_append_right _ (List.mem_append_right _ (List.mem_append_right _ (List.mem_append_right _ (List.mem_append_right _ (List.mem_append_right _ (List.mem_append_right _ (List.mem_append_right _ (List.mem_append_right _ (List.mem_append_right _ (List.mem_append_right _ (List.mem_append_right _ (List.mem_append_right _ (List.mem_append_right _ (List.mem_append_right _ (List.mem_append_right _ (List.mem_append_right _ (List.mem_append_right _ (List.mem_append_right _ (List.mem_append_right _ (List.mem_append_right _ (List.mem_append_right _ (List.mem_append_left _ h)))))))))))))))))))))))))))))))))))))))))))
theorem zr_44 : ∀ w ∈ wsL_law_r44, w ∈ wsL_law := fun w h => zr_base w (List.mem_append_right _ (List.mem_append_right _ (List.mem_append_right _ (List.mem_append_right _ (List.mem_append_right _ (List.mem_append_right _ (List.mem_append_right _ (List.mem_append_right _ (List.mem_append_right _ (List.mem_append_right _ (List.mem_append_right _ (List.mem_append_right _ (List.mem_append_right _ (List.mem_append_right _ (List.mem_append_right _ (List.mem_append_right _ (List.mem_append_right _ (List.mem_append_right _ (List.mem_append_right _ (List.mem_append_right _ (List.mem_append_right _ (List.mem_append_right _ (List.mem_append_right _ (List.mem_append_right _ (List.mem_append_right _ (List.mem_append_right _ (List.mem_append_right _ (List.mem_append_right _ (List.mem_append_right _ (List.mem_append_right _ (List.mem_append_right _ (List.mem_append_right _ (List.mem_append_right _ (List.mem_append_right _ (List.mem_append_right _ (List.mem_append_right _ (List.mem_append_right _ (List.mem_append_right _ (List.mem_append_right _ (List.mem_append_right _ (List.mem_append_right _ (List.mem_append_right _ (List.mem_append_right _ (List.mem_append_left _ h))))))))))))))))))))))))))))))))))))))))))))
theorem zr_45 : ∀ w ∈ wsL_law_r45, w ∈ wsL_law := fun w h => zr_base w (List.mem_append_right _ (List.mem_append_right _ (List.mem_append_right _ (List.mem_append_right _ (List.mem_append_right _ (List.mem_append_right _ (List.mem_append_right _ (List.mem_append_right _ (List.mem_append_right _ (List.mem_append_right _ (List.mem_append_right _ (List.mem_append_right _ (List.mem_append_right _ (List.mem_append_right _ (List.mem_append_right _ (List.mem_append_right _ (List.mem_append_right _ (List.mem_append_right _ (List.mem_append_right _ (List.mem_append_right _ (List.mem_append_right _ (List.mem_append_right _ (List.mem_append_right _ (List.mem_append_right _ (List.mem_append_right _ (List.mem_append_right _ (List.mem_append_right _ (List.mem_append_right _ (List.mem_append_right _ (List.mem_append_right _ (List.mem_append_right _ (List.mem_append_right _ (List.mem_append_right _ (List.mem_append_right _ (List.mem_append_right _ (List.mem_append_right _ (List.mem_append_right _ (List.mem_append_right _ (List.mem_append_right _ (List.mem_append_right _ (List.mem_append_right _ (List.mem_append_right _ (List.mem_append_right _ (List.mem_append_right _ (List.mem_append_left _ h)))))))))))))))))))))))))))))))))))))))))))))
theorem zr_46 : ∀ w ∈ wsL_law_r46, w ∈ wsL_law := fun w h => zr_base w (List.mem_append_right _ (List.mem_append_right _ (List.mem_append_right _ (List.mem_append_right _ (List.mem_append_right _ (List.mem_append_right _ (List.mem_append_right _ (List.mem_append_right _ (List.mem_append_right _ (List.mem_append_right _ (List.mem_append_right _ (List.mem_append_right _ (List.mem_append_right _ (List.mem_append_right _ (List.mem_append_right _ (List.mem_append_right _ (List.mem_append_right _ (List.mem_append_right _ (List.mem_append_right _ (List.mem_append_right _ (List.mem_append_right _ (List.mem_append_right _ (List.mem_append_right _ (List.mem_append_right _ (List.mem_append_right _ (List.mem_append_right _ (List.mem_append_right _ (List.mem_append_right _ (List.mem_append_right _ (List.mem_append_right _ (List.mem_append_right _ (List.mem_append_right _ (List.mem_append_right _ (List.mem_append_right _ (List.mem_append_right _ (List.mem_append_right _ (List.mem_append_right _ (List.mem_append_right _ (List.mem_append_right _ (List.mem_append_right _ (List.mem_append_right _ (List.mem_append_right _ (List.mem_append_right _ (List.mem_append_right _ (List.mem_append_right _ (List.mem_append_left _ h))))))))))))))))))))))))))))))))))))))))))))))
theorem zr_47 : ∀ w ∈ wsL_law_r47, w ∈ wsL_law := fun w h => zr_base w (List.mem_append_right _ (List.mem_append_right _ (List.mem_append_right _ (List.mem_append_right _ (List.mem_append_right _ (List.mem_append_right _ (List.mem_append_right _ (List.mem_append_right _ (List.mem_append_right _ (List.mem_append_right _ (List.mem_append_right _ (List.mem_append_right _ (List.mem_append_right _ (List.mem_append_right _ (List.mem_append_right _ (List.mem_append_right _ (List.mem_append_right _ (List.mem_append_right _ (List.mem_append_right _ (List.mem_append_right _ (List.mem_append_right _ (List.mem_append_right _ (List.mem_append_right _ (List.mem_append_right _ (List.mem_append_right _ (List.mem_append_right _ (List.mem_append_right _ (List.mem_append_right _ (List.mem_append_right _ (List.mem_append_right _ (List.mem_append_right _ (List.mem_append_right _ (List.mem_append_right _ (List.mem_append_right _ (List.mem_append_right _ (List.mem_append_right _ (List.mem_append_right _ (List.mem_append_right _ (List.mem_append_right _ (List.mem_append_right _ (List.mem_append_right _ (List.mem_append_right _ (List.mem_append_right _ (List.mem_append_right _ (List.mem_append_right _ (List.mem_append_right _ (List.mem_append_left _ h)))))))))))))))))))))))))))))))))))))))))))))))
theorem zr_48 : ∀ w ∈ wsL_law_r48, w ∈ wsL_law := fun w h => zr_base w (List.mem_append_right _ (List.mem_append_right _ (List.mem_append_right _ (List.mem_append_right _ (List.mem_append_right _ (List.mem_append_right _ (List.mem_append_right _ (List.mem_append_right _ (List.mem_append_right _ (List.mem_append_right _ (List.mem_append_right _ (List.mem_append_right _ (List.mem_append_right _ (List.mem_append_right _ (List.mem_append_right _ (List.mem_append_right _ (List.mem_append_right _ (List.mem_append_right _ (List.mem_append_right _ (List.mem_append_right _ (List.mem_append_right _ (List.mem_append_right _ (List.mem_append_right _ (List.mem_append_right _ (List.mem_append_right _ (List.mem_append_right _ (List.mem_append_right _ (List.mem_append_right _ (List.mem_append_right _ (List.mem_append_right _ (List.mem_append_right _ (List.mem_append_right _ (List.mem_append_right _ (List.mem_append_right _ (List.mem_append_right _ (List.mem_append_right _ (List.mem_append_right _ (List.mem_append_right _ (List.mem_append_right _ (List.mem_append_right _ (List.mem_append_right _ (List.mem_append_right _ (List.mem_append_right _ (List.mem_append_right _ (List.mem_append_right _ (List.mem_append_right _ (List.mem_append_right _ (h))))))))))))))))))))))))))))))))))))))))))))))))
def zFo (n : Nat) : List (Nat × (Nat × Nat)) := match n with
  | 0 => [(9, (0, 0)), (15, (0, 4)), (19, (0, 5)), (22, (0, 2)), (26, (0, 3)), (33, (0, 1))]
  | 1 => [(11, (1, 0)), (18, (1, 1)), (26, (1, 2))]
  | 2 => [(9, (2, 0)), (15, (2, 1)), (18, (2, 2)), (21, (2, 3))]
  | 3 => [(9, (3, 1)), (15, (3, 2)), (18, (3, 3)), (21, (3, 4)), (24, (3, 5)), (27, (3, 6)), (30, (3, 8)), (33, (3, 9)), (36, (3, 10)), (41, (3, 11)), (44, (3, 12)), (56, (3, 0)), (60, (3, 7))]
  | 4 => [(9, (4, 1)), (15, (4, 2)), (18, (4, 3)), (22, (4, 4)), (25, (4, 0))]
  | 5 => [(9, (5, 0)), (15, (5, 1)), (19, (6, 2)), (24, (6, 3)), (28, (3, 1)), (41, (3, 2)), (44, (3, 3)), (50, (3, 4)), (53, (6, 4))]
  | 6 => [(9, (6, 3)), (15, (6, 4)), (19, (6, 5)), (22, (6, 6)), (25, (6, 8)), (28, (6, 9)), (31, (6, 10)), (34, (6, 12)), (37, (6, 13)), (40, (6, 0)), (44, (3, 8)), (49, (6, 1)), (53, (6, 2)), (56, (6, 7)), (59, (3, 0)), (62, (3, 6)), (65, (3, 11)), (73, (3, 3)), (76, (3, 4)), (79, (3, 12)), (102, (6, 11)), (86, (3, 1)), (89, (3, 2))]
  | 7 => [(9, (7, 2)), (15, (7, 4)), (18, (7, 0)), (22, (7, 1)), (26, (7, 3)), (30, (7, 5)), (33, (7, 6)), (50, (3, 0)), (79, (6, 2)), (82, (3, 3)), (85, (6, 3))]
  | 8 => [(10, (8, 0)), (16, (8, 1)), (19, (8, 2)), (22, (8, 3)), (29, (8, 4)), (38, (8, 5)), (45, (8, 6)), (52, (8, 7)), (61, (8, 8)), (68, (8, 9)), (75, (8, 10)), (93, (3, 0)), (104, (3, 1)), (108, (3, 2)), (111, (3, 3)), (114, (3, 4)), (117, (3, 5)), (97, (3, 7)), (308, (3, 8)), (131, (3, 12)), (317, (3, 11)), (185, (6, 12)), (154, (6, 2)), (147, (6, 13)), (157, (6, 3)), (160, (6, 4)), (164, (6, 6)), (167, (6, 7)), (173, (6, 10)), (179, (6, 8)), (208, (3, 6)), (223, (3, 9)), (226, (3, 10)), (238, (2, 0)), (241, (2, 1)), (244, (2, 2)), (250, (4, 0)), (256, (4, 4)), (251, (4, 1)), (254, (4, 2)), (255, (4, 3)), (262, (7, 5)), (265, (7, 6)), (268, (7, 4)), (278, (5, 1)), (281, (5, 0)), (285, (0, 1)), (286, (0, 0)), (290, (0, 3)), (354, (0, 5)), (357, (0, 4))]
  | 9 => [(9, (9, 0)), (13, (9, 1)), (16, (9, 3)), (19, (9, 5)), (22, (9, 7)), (25, (9, 10)), (28, (9, 16)), (31, (9, 17)), (34, (9, 19)), (37, (9, 20)), (40, (9, 23)), (44, (9, 25)), (47, (9, 29)), (71, (9, 6)), (67, (9, 4)), (114, (9, 8)), (117, (9, 9)), (203, (9, 11)), (221, (9, 12)), (230, (9, 13)), (224, (9, 14)), (227, (9, 15)), (243, (9, 18)), (253, (9, 21)), (250, (9, 22)), (262, (9, 24)), (290, (9, 26)), (292, (9, 27)), (322, (9, 28)), (363, (9, 2))]
  | _ => []
def zF (n idx : Nat) : Option (Nat × Nat) := (zFo n).lookup idx
def zFok (n : Nat) (q : Nat × (Nat × Nat)) : Prop := q.2.1 < 10 ∧ q.2.2 < zFn q.2.1 ∧ Cond.fieldLink (zRn n) q.1 (zFd q.2.1 q.2.2).1 (zFd q.2.1 q.2.2).2.1 (zFd q.2.1 q.2.2).2.2.1 ∈ wsL_law
theorem zF_8_10 : zFok 8 (10, (8, 0)) := ⟨by decide, by decide, zr_1 _ (List.mem_of_getElem? (i := 15) rfl)⟩
theorem f_8_10 : zF 8 10 = some (8, 0) := rfl
theorem zF_8_16 : zFok 8 (16, (8, 1)) := ⟨by decide, by decide, zr_1 _ (List.mem_of_getElem? (i := 16) rfl)⟩
theorem f_8_16 : zF 8 16 = some (8, 1) := rfl
theorem zF_8_19 : zFok 8 (19, (8, 2)) := ⟨by decide, by decide, zr_1 _ (List.mem_of_getElem? (i := 17) rfl)⟩
theorem f_8_19 : zF 8 19 = some (8, 2) := rfl
theorem zF_8_22 : zFok 8 (22, (8, 3)) := ⟨by decide, by decide, zr_1 _ (List.mem_of_getElem? (i := 18) rfl)⟩
theorem f_8_22 : zF 8 22 = some (8, 3) := rfl
theorem zF_8_29 : zFok 8 (29, (8, 4)) := ⟨by decide, by decide, zr_1 _ (List.mem_of_getElem? (i := 22) rfl)⟩
theorem f_8_29 : zF 8 29 = some (8, 4) := rfl
theorem zF_8_38 : zFok 8 (38, (8, 5)) := ⟨by decide, by decide, zr_2 _ (List.mem_of_getElem? (i := 2) rfl)⟩
theorem f_8_38 : zF 8 38 = some (8, 5) := rfl
theorem zF_8_45 : zFok 8 (45, (8, 6)) := ⟨by decide, by decide, zr_2 _ (List.mem_of_getElem? (i := 6) rfl)⟩
theorem f_8_45 : zF 8 45 = some (8, 6) := rfl
theorem zF_8_52 : zFok 8 (52, (8, 7)) := ⟨by decide, by decide, zr_2 _ (List.mem_of_getElem? (i := 10) rfl)⟩
theorem f_8_52 : zF 8 52 = some (8, 7) := rfl
theorem zF_8_61 : zFok 8 (61, (8, 8)) := ⟨by decide, by decide, zr_2 _ (List.mem_of_getElem? (i := 14) rfl)⟩
theorem f_8_61 : zF 8 61 = some (8, 8) := rfl
theorem zF_8_68 : zFok 8 (68, (8, 9)) := ⟨by decide, by decide, zr_2 _ (List.mem_of_getElem? (i := 18) rfl)⟩
theorem f_8_68 : zF 8 68 = some (8, 9) := rfl
theorem zF_8_75 : zFok 8 (75, (8, 10)) := ⟨by decide, by decide, zr_2 _ (List.mem_of_getElem? (i := 22) rfl)⟩
theorem f_8_75 : zF 8 75 = some (8, 10) := rfl
theorem zF_3_9 : zFok 3 (9, (3, 1)) := ⟨by decide, by decide, zr_3 _ (List.mem_of_getElem? (i := 4) rfl)⟩
theorem f_3_9 : zF 3 9 = some (3, 1) := rfl
theorem zF_3_15 : zFok 3 (15, (3, 2)) := ⟨by decide, by decide, zr_3 _ (List.mem_of_getElem? (i := 5) rfl)⟩
theorem f_3_15 : zF 3 15 = some (3, 2) := rfl
theorem zF_3_18 : zFok 3 (18, (3, 3)) := ⟨by decide, by decide, zr_3 _ (List.mem_of_getElem? (i := 6) rfl)⟩
theorem f_3_18 : zF 3 18 = some (3, 3) := rfl
theorem zF_3_21 : zFok 3 (21, (3, 4)) := ⟨by decide, by decide, zr_3 _ (List.mem_of_getElem? (i := 7) rfl)⟩
theorem f_3_21 : zF 3 21 = some (3, 4) := rfl
theorem zF_3_24 : zFok 3 (24, (3, 5)) := ⟨by decide, by decide, zr_3 _ (List.mem_of_getElem? (i := 8) rfl)⟩
theorem f_3_24 : zF 3 24 = some (3, 5) := rfl
theorem zF_3_27 : zFok 3 (27, (3, 6)) := ⟨by decide, by decide, zr_3 _ (List.mem_of_getElem? (i := 9) rfl)⟩
theorem f_3_27 : zF 3 27 = some (3, 6) := rfl
theorem zF_3_30 : zFok 3 (30, (3, 8)) := ⟨by decide, by decide, zr_3 _ (List.mem_of_getElem? (i := 10) rfl)⟩
theorem f_3_30 : zF 3 30 = some (3, 8) := rfl
theorem zF_3_33 : zFok 3 (33, (3, 9)) := ⟨by decide, by decide, zr_3 _ (List.mem_of_getElem? (i := 11) rfl)⟩
theorem f_3_33 : zF 3 33 = some (3, 9) := rfl
theorem zF_3_36 : zFok 3 (36, (3, 10)) := ⟨by decide, by decide, zr_3 _ (List.mem_of_getElem? (i := 12) rfl)⟩
theorem f_3_36 : zF 3 36 = some (3, 10) := rfl
theorem zF_3_41 : zFok 3 (41, (3, 11)) := ⟨by decide, by decide, zr_3 _ (List.mem_of_getElem? (i := 14) rfl)⟩
theorem f_3_41 : zF 3 41 = some (3, 11) := rfl
theorem zF_3_44 : zFok 3 (44, (3, 12)) := ⟨by decide, by decide, zr_3 _ (List.mem_of_getElem? (i := 15) rfl)⟩
theorem f_3_44 : zF 3 44 = some (3, 12) := rfl
theorem zF_1_11 : zFok 1 (11, (1, 0)) := ⟨by decide, by decide, zr_4 _ (List.mem_of_getElem? (i := 1) rfl)⟩
theorem f_1_11 : zF 1 11 = some (1, 0) := rfl
theorem zF_6_9 : zFok 6 (9, (6, 3)) := ⟨by decide, by decide, zr_4 _ (List.mem_of_getElem? (i := 7) rfl)⟩
theorem f_6_9 : zF 6 9 = some (6, 3) := rfl
theorem zF_6_15 : zFok 6 (15, (6, 4)) := ⟨by decide, by decide, zr_4 _ (List.mem_of_getElem? (i := 9) rfl)⟩
theorem f_6_15 : zF 6 15 = some (6, 4) := rfl
theorem zF_6_19 : zFok 6 (19, (6, 5)) := ⟨by decide, by decide, zr_4 _ (List.mem_of_getElem? (i := 10) rfl)⟩
theorem f_6_19 : zF 6 19 = some (6, 5) := rfl
theorem zF_6_22 : zFok 6 (22, (6, 6)) := ⟨by decide, by decide, zr_4 _ (List.mem_of_getElem? (i := 11) rfl)⟩
theorem f_6_22 : zF 6 22 = some (6, 6) := rfl
theorem zF_6_25 : zFok 6 (25, (6, 8)) := ⟨by decide, by decide, zr_4 _ (List.mem_of_getElem? (i := 12) rfl)⟩
theorem f_6_25 : zF 6 25 = some (6, 8) := rfl
theorem zF_6_28 : zFok 6 (28, (6, 9)) := ⟨by decide, by decide, zr_4 _ (List.mem_of_getElem? (i := 13) rfl)⟩
theorem f_6_28 : zF 6 28 = some (6, 9) := rfl
theorem zF_6_31 : zFok 6 (31, (6, 10)) := ⟨by decide, by decide, zr_4 _ (List.mem_of_getElem? (i := 14) rfl)⟩
theorem f_6_31 : zF 6 31 = some (6, 10) := rfl
theorem zF_6_34 : zFok 6 (34, (6, 12)) := ⟨by decide, by decide, zr_4 _ (List.mem_of_getElem? (i := 15) rfl)⟩
theorem f_6_34 : zF 6 34 = some (6, 12) := rfl
theorem zF_6_37 : zFok 6 (37, (6, 13)) := ⟨by decide, by decide, zr_4 _ (List.mem_of_getElem? (i := 16) rfl)⟩
theorem f_6_37 : zF 6 37 = some (6, 13) := rfl
theorem zF_6_40 : zFok 6 (40, (6, 0)) := ⟨by decide, by decide, zr_4 _ (List.mem_of_getElem? (i := 17) rfl)⟩
theorem f_6_40 : zF 6 40 = some (6, 0) := rfl
theorem zF_2_9 : zFok 2 (9, (2, 0)) := ⟨by decide, by decide, zr_4 _ (List.mem_of_getElem? (i := 21) rfl)⟩
theorem f_2_9 : zF 2 9 = some (2, 0) := rfl
theorem zF_2_15 : zFok 2 (15, (2, 1)) := ⟨by decide, by decide, zr_4 _ (List.mem_of_getElem? (i := 22) rfl)⟩
theorem f_2_15 : zF 2 15 = some (2, 1) := rfl
theorem zF_4_9 : zFok 4 (9, (4, 1)) := ⟨by decide, by decide, zr_5 _ (List.mem_of_getElem? (i := 2) rfl)⟩
theorem f_4_9 : zF 4 9 = some (4, 1) := rfl
theorem zF_4_15 : zFok 4 (15, (4, 2)) := ⟨by decide, by decide, zr_5 _ (List.mem_of_getElem? (i := 3) rfl)⟩
theorem f_4_15 : zF 4 15 = some (4, 2) := rfl
theorem zF_4_18 : zFok 4 (18, (4, 3)) := ⟨by decide, by decide, zr_5 _ (List.mem_of_getElem? (i := 4) rfl)⟩
theorem f_4_18 : zF 4 18 = some (4, 3) := rfl
theorem zF_4_22 : zFok 4 (22, (4, 4)) := ⟨by decide, by decide, zr_5 _ (List.mem_of_getElem? (i := 5) rfl)⟩
theorem f_4_22 : zF 4 22 = some (4, 4) := rfl
theorem zF_7_9 : zFok 7 (9, (7, 2)) := ⟨by decide, by decide, zr_5 _ (List.mem_of_getElem? (i := 10) rfl)⟩
theorem f_7_9 : zF 7 9 = some (7, 2) := rfl
theorem zF_7_15 : zFok 7 (15, (7, 4)) := ⟨by decide, by decide, zr_5 _ (List.mem_of_getElem? (i := 11) rfl)⟩
theorem f_7_15 : zF 7 15 = some (7, 4) := rfl
theorem zF_7_18 : zFok 7 (18, (7, 0)) := ⟨by decide, by decide, zr_5 _ (List.mem_of_getElem? (i := 12) rfl)⟩
theorem f_7_18 : zF 7 18 = some (7, 0) := rfl
theorem zF_7_22 : zFok 7 (22, (7, 1)) := ⟨by decide, by decide, zr_5 _ (List.mem_of_getElem? (i := 13) rfl)⟩
theorem f_7_22 : zF 7 22 = some (7, 1) := rfl
theorem zF_5_9 : zFok 5 (9, (5, 0)) := ⟨by decide, by decide, zr_5 _ (List.mem_of_getElem? (i := 18) rfl)⟩
theorem f_5_9 : zF 5 9 = some (5, 0) := rfl
theorem zF_0_9 : zFok 0 (9, (0, 0)) := ⟨by decide, by decide, zr_5 _ (List.mem_of_getElem? (i := 22) rfl)⟩
theorem f_0_9 : zF 0 9 = some (0, 0) := rfl
theorem zF_0_15 : zFok 0 (15, (0, 4)) := ⟨by decide, by decide, zr_5 _ (List.mem_of_getElem? (i := 23) rfl)⟩
theorem f_0_15 : zF 0 15 = some (0, 4) := rfl
theorem zF_0_19 : zFok 0 (19, (0, 5)) := ⟨by decide, by decide, zr_6 _ (List.mem_of_getElem? (i := 0) rfl)⟩
theorem f_0_19 : zF 0 19 = some (0, 5) := rfl
theorem zF_9_9 : zFok 9 (9, (9, 0)) := ⟨by decide, by decide, zr_6 _ (List.mem_of_getElem? (i := 5) rfl)⟩
theorem f_9_9 : zF 9 9 = some (9, 0) := rfl
theorem zF_9_13 : zFok 9 (13, (9, 1)) := ⟨by decide, by decide, zr_6 _ (List.mem_of_getElem? (i := 6) rfl)⟩
theorem f_9_13 : zF 9 13 = some (9, 1) := rfl
theorem zF_9_16 : zFok 9 (16, (9, 3)) := ⟨by decide, by decide, zr_6 _ (List.mem_of_getElem? (i := 7) rfl)⟩
theorem f_9_16 : zF 9 16 = some (9, 3) := rfl
theorem zF_9_19 : zFok 9 (19, (9, 5)) := ⟨by decide, by decide, zr_6 _ (List.mem_of_getElem? (i := 8) rfl)⟩
theorem f_9_19 : zF 9 19 = some (9, 5) := rfl
theorem zF_9_22 : zFok 9 (22, (9, 7)) := ⟨by decide, by decide, zr_6 _ (List.mem_of_getElem? (i := 9) rfl)⟩
theorem f_9_22 : zF 9 22 = some (9, 7) := rfl
theorem zF_9_25 : zFok 9 (25, (9, 10)) := ⟨by decide, by decide, zr_6 _ (List.mem_of_getElem? (i := 10) rfl)⟩
theorem f_9_25 : zF 9 25 = some (9, 10) := rfl
theorem zF_9_28 : zFok 9 (28, (9, 16)) := ⟨by decide, by decide, zr_6 _ (List.mem_of_getElem? (i := 11) rfl)⟩
theorem f_9_28 : zF 9 28 = some (9, 16) := rfl
theorem zF_9_31 : zFok 9 (31, (9, 17)) := ⟨by decide, by decide, zr_6 _ (List.mem_of_getElem? (i := 12) rfl)⟩
theorem f_9_31 : zF 9 31 = some (9, 17) := rfl
theorem zF_9_34 : zFok 9 (34, (9, 19)) := ⟨by decide, by decide, zr_6 _ (List.mem_of_getElem? (i := 13) rfl)⟩
theorem f_9_34 : zF 9 34 = some (9, 19) := rfl
theorem zF_9_37 : zFok 9 (37, (9, 20)) := ⟨by decide, by decide, zr_6 _ (List.mem_of_getElem? (i := 14) rfl)⟩
theorem f_9_37 : zF 9 37 = some (9, 20) := rfl
theorem zF_9_40 : zFok 9 (40, (9, 23)) := ⟨by decide, by decide, zr_6 _ (List.mem_of_getElem? (i := 15) rfl)⟩
theorem f_9_40 : zF 9 40 = some (9, 23) := rfl
theorem zF_9_44 : zFok 9 (44, (9, 25)) := ⟨by decide, by decide, zr_6 _ (List.mem_of_getElem? (i := 16) rfl)⟩
theorem f_9_44 : zF 9 44 = some (9, 25) := rfl
theorem zF_9_47 : zFok 9 (47, (9, 29)) := ⟨by decide, by decide, zr_6 _ (List.mem_of_getElem? (i := 17) rfl)⟩
theorem f_9_47 : zF 9 47 = some (9, 29) := rfl
theorem zF_3_56 : zFok 3 (56, (3, 0)) := ⟨by decide, by decide, zr_7 _ (List.mem_of_getElem? (i := 4) rfl)⟩
theorem f_3_56 : zF 3 56 = some (3, 0) := rfl
theorem zF_3_60 : zFok 3 (60, (3, 7)) := ⟨by decide, by decide, zr_7 _ (List.mem_of_getElem? (i := 5) rfl)⟩
theorem f_3_60 : zF 3 60 = some (3, 7) := rfl
theorem zF_8_93 : zFok 8 (93, (3, 0)) := ⟨by decide, by decide, zr_7 _ (List.mem_of_getElem? (i := 10) rfl)⟩
theorem f_8_93 : zF 8 93 = some (3, 0) := rfl
theorem zF_8_104 : zFok 8 (104, (3, 1)) := ⟨by decide, by decide, zr_7 _ (List.mem_of_getElem? (i := 11) rfl)⟩
theorem f_8_104 : zF 8 104 = some (3, 1) := rfl
theorem zF_8_108 : zFok 8 (108, (3, 2)) := ⟨by decide, by decide, zr_7 _ (List.mem_of_getElem? (i := 12) rfl)⟩
theorem f_8_108 : zF 8 108 = some (3, 2) := rfl
theorem zF_8_111 : zFok 8 (111, (3, 3)) := ⟨by decide, by decide, zr_7 _ (List.mem_of_getElem? (i := 13) rfl)⟩
theorem f_8_111 : zF 8 111 = some (3, 3) := rfl
theorem zF_8_114 : zFok 8 (114, (3, 4)) := ⟨by decide, by decide, zr_7 _ (List.mem_of_getElem? (i := 14) rfl)⟩
theorem f_8_114 : zF 8 114 = some (3, 4) := rfl
theorem zF_8_117 : zFok 8 (117, (3, 5)) := ⟨by decide, by decide, zr_7 _ (List.mem_of_getElem? (i := 15) rfl)⟩
theorem f_8_117 : zF 8 117 = some (3, 5) := rfl
theorem zF_1_18 : zFok 1 (18, (1, 1)) := ⟨by decide, by decide, zr_8 _ (List.mem_of_getElem? (i := 11) rfl)⟩
theorem f_1_18 : zF 1 18 = some (1, 1) := rfl
theorem zF_1_26 : zFok 1 (26, (1, 2)) := ⟨by decide, by decide, zr_8 _ (List.mem_of_getElem? (i := 12) rfl)⟩
theorem f_1_26 : zF 1 26 = some (1, 2) := rfl
theorem zF_9_71 : zFok 9 (71, (9, 6)) := ⟨by decide, by decide, zr_9 _ (List.mem_of_getElem? (i := 13) rfl)⟩
theorem f_9_71 : zF 9 71 = some (9, 6) := rfl
theorem zF_9_67 : zFok 9 (67, (9, 4)) := ⟨by decide, by decide, zr_9 _ (List.mem_of_getElem? (i := 18) rfl)⟩
theorem f_9_67 : zF 9 67 = some (9, 4) := rfl
theorem zF_8_97 : zFok 8 (97, (3, 7)) := ⟨by decide, by decide, zr_10 _ (List.mem_of_getElem? (i := 3) rfl)⟩
theorem f_8_97 : zF 8 97 = some (3, 7) := rfl
theorem zF_8_308 : zFok 8 (308, (3, 8)) := ⟨by decide, by decide, zr_10 _ (List.mem_of_getElem? (i := 4) rfl)⟩
theorem f_8_308 : zF 8 308 = some (3, 8) := rfl
theorem zF_8_131 : zFok 8 (131, (3, 12)) := ⟨by decide, by decide, zr_12 _ (List.mem_of_getElem? (i := 22) rfl)⟩
theorem f_8_131 : zF 8 131 = some (3, 12) := rfl
theorem zF_8_317 : zFok 8 (317, (3, 11)) := ⟨by decide, by decide, zr_13 _ (List.mem_of_getElem? (i := 21) rfl)⟩
theorem f_8_317 : zF 8 317 = some (3, 11) := rfl
theorem zF_8_185 : zFok 8 (185, (6, 12)) := ⟨by decide, by decide, zr_14 _ (List.mem_of_getElem? (i := 6) rfl)⟩
theorem f_8_185 : zF 8 185 = some (6, 12) := rfl
theorem zF_6_44 : zFok 6 (44, (3, 8)) := ⟨by decide, by decide, zr_14 _ (List.mem_of_getElem? (i := 11) rfl)⟩
theorem f_6_44 : zF 6 44 = some (3, 8) := rfl
theorem zF_6_49 : zFok 6 (49, (6, 1)) := ⟨by decide, by decide, zr_14 _ (List.mem_of_getElem? (i := 12) rfl)⟩
theorem f_6_49 : zF 6 49 = some (6, 1) := rfl
theorem zF_6_53 : zFok 6 (53, (6, 2)) := ⟨by decide, by decide, zr_14 _ (List.mem_of_getElem? (i := 13) rfl)⟩
theorem f_6_53 : zF 6 53 = some (6, 2) := rfl
theorem zF_6_56 : zFok 6 (56, (6, 7)) := ⟨by decide, by decide, zr_14 _ (List.mem_of_getElem? (i := 14) rfl)⟩
theorem f_6_56 : zF 6 56 = some (6, 7) := rfl
theorem zF_6_59 : zFok 6 (59, (3, 0)) := ⟨by decide, by decide, zr_14 _ (List.mem_of_getElem? (i := 15) rfl)⟩
theorem f_6_59 : zF 6 59 = some (3, 0) := rfl
theorem zF_6_62 : zFok 6 (62, (3, 6)) := ⟨by decide, by decide, zr_14 _ (List.mem_of_getElem? (i := 16) rfl)⟩
theorem f_6_62 : zF 6 62 = some (3, 6) := rfl
theorem zF_6_65 : zFok 6 (65, (3, 11)) := ⟨by decide, by decide, zr_14 _ (List.mem_of_getElem? (i := 17) rfl)⟩
theorem f_6_65 : zF 6 65 = some (3, 11) := rfl
theorem zF_6_73 : zFok 6 (73, (3, 3)) := ⟨by decide, by decide, zr_14 _ (List.mem_of_getElem? (i := 22) rfl)⟩
theorem f_6_73 : zF 6 73 = some (3, 3) := rfl
theorem zF_6_76 : zFok 6 (76, (3, 4)) := ⟨by decide, by decide, zr_14 _ (List.mem_of_getElem? (i := 23) rfl)⟩
theorem f_6_76 : zF 6 76 = some (3, 4) := rfl
theorem zF_6_79 : zFok 6 (79, (3, 12)) := ⟨by decide, by decide, zr_15 _ (List.mem_of_getElem? (i := 0) rfl)⟩
theorem f_6_79 : zF 6 79 = some (3, 12) := rfl
theorem zF_6_102 : zFok 6 (102, (6, 11)) := ⟨by decide, by decide, zr_15 _ (List.mem_of_getElem? (i := 5) rfl)⟩
theorem f_6_102 : zF 6 102 = some (6, 11) := rfl
theorem zF_6_86 : zFok 6 (86, (3, 1)) := ⟨by decide, by decide, zr_15 _ (List.mem_of_getElem? (i := 18) rfl)⟩
theorem f_6_86 : zF 6 86 = some (3, 1) := rfl
theorem zF_6_89 : zFok 6 (89, (3, 2)) := ⟨by decide, by decide, zr_15 _ (List.mem_of_getElem? (i := 19) rfl)⟩
theorem f_6_89 : zF 6 89 = some (3, 2) := rfl
theorem zF_9_114 : zFok 9 (114, (9, 8)) := ⟨by decide, by decide, zr_17 _ (List.mem_of_getElem? (i := 4) rfl)⟩
theorem f_9_114 : zF 9 114 = some (9, 8) := rfl
theorem zF_9_117 : zFok 9 (117, (9, 9)) := ⟨by decide, by decide, zr_17 _ (List.mem_of_getElem? (i := 5) rfl)⟩
theorem f_9_117 : zF 9 117 = some (9, 9) := rfl
theorem zF_8_154 : zFok 8 (154, (6, 2)) := ⟨by decide, by decide, zr_20 _ (List.mem_of_getElem? (i := 17) rfl)⟩
theorem f_8_154 : zF 8 154 = some (6, 2) := rfl
theorem zF_8_147 : zFok 8 (147, (6, 13)) := ⟨by decide, by decide, zr_21 _ (List.mem_of_getElem? (i := 10) rfl)⟩
theorem f_8_147 : zF 8 147 = some (6, 13) := rfl
theorem zF_8_157 : zFok 8 (157, (6, 3)) := ⟨by decide, by decide, zr_22 _ (List.mem_of_getElem? (i := 3) rfl)⟩
theorem f_8_157 : zF 8 157 = some (6, 3) := rfl
theorem zF_8_160 : zFok 8 (160, (6, 4)) := ⟨by decide, by decide, zr_22 _ (List.mem_of_getElem? (i := 4) rfl)⟩
theorem f_8_160 : zF 8 160 = some (6, 4) := rfl
theorem zF_8_164 : zFok 8 (164, (6, 6)) := ⟨by decide, by decide, zr_22 _ (List.mem_of_getElem? (i := 5) rfl)⟩
theorem f_8_164 : zF 8 164 = some (6, 6) := rfl
theorem zF_8_167 : zFok 8 (167, (6, 7)) := ⟨by decide, by decide, zr_22 _ (List.mem_of_getElem? (i := 18) rfl)⟩
theorem f_8_167 : zF 8 167 = some (6, 7) := rfl
theorem zF_8_173 : zFok 8 (173, (6, 10)) := ⟨by decide, by decide, zr_23 _ (List.mem_of_getElem? (i := 3) rfl)⟩
theorem f_8_173 : zF 8 173 = some (6, 10) := rfl
theorem zF_8_179 : zFok 8 (179, (6, 8)) := ⟨by decide, by decide, zr_23 _ (List.mem_of_getElem? (i := 4) rfl)⟩
theorem f_8_179 : zF 8 179 = some (6, 8) := rfl
theorem zF_9_203 : zFok 9 (203, (9, 11)) := ⟨by decide, by decide, zr_28 _ (List.mem_of_getElem? (i := 10) rfl)⟩
theorem f_9_203 : zF 9 203 = some (9, 11) := rfl
theorem zF_8_208 : zFok 8 (208, (3, 6)) := ⟨by decide, by decide, zr_28 _ (List.mem_of_getElem? (i := 23) rfl)⟩
theorem f_8_208 : zF 8 208 = some (3, 6) := rfl
theorem zF_8_223 : zFok 8 (223, (3, 9)) := ⟨by decide, by decide, zr_30 _ (List.mem_of_getElem? (i := 16) rfl)⟩
theorem f_8_223 : zF 8 223 = some (3, 9) := rfl
theorem zF_8_226 : zFok 8 (226, (3, 10)) := ⟨by decide, by decide, zr_30 _ (List.mem_of_getElem? (i := 17) rfl)⟩
theorem f_8_226 : zF 8 226 = some (3, 10) := rfl
theorem zF_8_238 : zFok 8 (238, (2, 0)) := ⟨by decide, by decide, zr_32 _ (List.mem_of_getElem? (i := 19) rfl)⟩
theorem f_8_238 : zF 8 238 = some (2, 0) := rfl
theorem zF_8_241 : zFok 8 (241, (2, 1)) := ⟨by decide, by decide, zr_32 _ (List.mem_of_getElem? (i := 20) rfl)⟩
theorem f_8_241 : zF 8 241 = some (2, 1) := rfl
theorem zF_2_18 : zFok 2 (18, (2, 2)) := ⟨by decide, by decide, zr_33 _ (List.mem_of_getElem? (i := 5) rfl)⟩
theorem f_2_18 : zF 2 18 = some (2, 2) := rfl
theorem zF_2_21 : zFok 2 (21, (2, 3)) := ⟨by decide, by decide, zr_33 _ (List.mem_of_getElem? (i := 6) rfl)⟩
theorem f_2_21 : zF 2 21 = some (2, 3) := rfl
theorem zF_9_221 : zFok 9 (221, (9, 12)) := ⟨by decide, by decide, zr_33 _ (List.mem_of_getElem? (i := 16) rfl)⟩
theorem f_9_221 : zF 9 221 = some (9, 12) := rfl
theorem zF_9_230 : zFok 9 (230, (9, 13)) := ⟨by decide, by decide, zr_33 _ (List.mem_of_getElem? (i := 17) rfl)⟩
theorem f_9_230 : zF 9 230 = some (9, 13) := rfl
theorem zF_9_224 : zFok 9 (224, (9, 14)) := ⟨by decide, by decide, zr_34 _ (List.mem_of_getElem? (i := 2) rfl)⟩
theorem f_9_224 : zF 9 224 = some (9, 14) := rfl
theorem zF_9_227 : zFok 9 (227, (9, 15)) := ⟨by decide, by decide, zr_34 _ (List.mem_of_getElem? (i := 3) rfl)⟩
theorem f_9_227 : zF 9 227 = some (9, 15) := rfl
theorem zF_8_244 : zFok 8 (244, (2, 2)) := ⟨by decide, by decide, zr_34 _ (List.mem_of_getElem? (i := 12) rfl)⟩
theorem f_8_244 : zF 8 244 = some (2, 2) := rfl
theorem zF_8_250 : zFok 8 (250, (4, 0)) := ⟨by decide, by decide, zr_35 _ (List.mem_of_getElem? (i := 1) rfl)⟩
theorem f_8_250 : zF 8 250 = some (4, 0) := rfl
theorem zF_8_256 : zFok 8 (256, (4, 4)) := ⟨by decide, by decide, zr_35 _ (List.mem_of_getElem? (i := 2) rfl)⟩
theorem f_8_256 : zF 8 256 = some (4, 4) := rfl
theorem zF_4_25 : zFok 4 (25, (4, 0)) := ⟨by decide, by decide, zr_35 _ (List.mem_of_getElem? (i := 11) rfl)⟩
theorem f_4_25 : zF 4 25 = some (4, 0) := rfl
theorem zF_9_243 : zFok 9 (243, (9, 18)) := ⟨by decide, by decide, zr_35 _ (List.mem_of_getElem? (i := 20) rfl)⟩
theorem f_9_243 : zF 9 243 = some (9, 18) := rfl
theorem zF_8_251 : zFok 8 (251, (4, 1)) := ⟨by decide, by decide, zr_36 _ (List.mem_of_getElem? (i := 5) rfl)⟩
theorem f_8_251 : zF 8 251 = some (4, 1) := rfl
theorem zF_8_254 : zFok 8 (254, (4, 2)) := ⟨by decide, by decide, zr_36 _ (List.mem_of_getElem? (i := 6) rfl)⟩
theorem f_8_254 : zF 8 254 = some (4, 2) := rfl
theorem zF_8_255 : zFok 8 (255, (4, 3)) := ⟨by decide, by decide, zr_36 _ (List.mem_of_getElem? (i := 7) rfl)⟩
theorem f_8_255 : zF 8 255 = some (4, 3) := rfl
theorem zF_8_262 : zFok 8 (262, (7, 5)) := ⟨by decide, by decide, zr_36 _ (List.mem_of_getElem? (i := 16) rfl)⟩
theorem f_8_262 : zF 8 262 = some (7, 5) := rfl
theorem zF_8_265 : zFok 8 (265, (7, 6)) := ⟨by decide, by decide, zr_36 _ (List.mem_of_getElem? (i := 17) rfl)⟩
theorem f_8_265 : zF 8 265 = some (7, 6) := rfl
theorem zF_7_26 : zFok 7 (26, (7, 3)) := ⟨by decide, by decide, zr_36 _ (List.mem_of_getElem? (i := 22) rfl)⟩
theorem f_7_26 : zF 7 26 = some (7, 3) := rfl
theorem zF_7_30 : zFok 7 (30, (7, 5)) := ⟨by decide, by decide, zr_36 _ (List.mem_of_getElem? (i := 23) rfl)⟩
theorem f_7_30 : zF 7 30 = some (7, 5) := rfl
theorem zF_7_33 : zFok 7 (33, (7, 6)) := ⟨by decide, by decide, zr_37 _ (List.mem_of_getElem? (i := 0) rfl)⟩
theorem f_7_33 : zF 7 33 = some (7, 6) := rfl
theorem zF_7_50 : zFok 7 (50, (3, 0)) := ⟨by decide, by decide, zr_37 _ (List.mem_of_getElem? (i := 6) rfl)⟩
theorem f_7_50 : zF 7 50 = some (3, 0) := rfl
theorem zF_7_79 : zFok 7 (79, (6, 2)) := ⟨by decide, by decide, zr_37 _ (List.mem_of_getElem? (i := 11) rfl)⟩
theorem f_7_79 : zF 7 79 = some (6, 2) := rfl
theorem zF_7_82 : zFok 7 (82, (3, 3)) := ⟨by decide, by decide, zr_37 _ (List.mem_of_getElem? (i := 12) rfl)⟩
theorem f_7_82 : zF 7 82 = some (3, 3) := rfl
theorem zF_7_85 : zFok 7 (85, (6, 3)) := ⟨by decide, by decide, zr_37 _ (List.mem_of_getElem? (i := 13) rfl)⟩
theorem f_7_85 : zF 7 85 = some (6, 3) := rfl
theorem zF_9_253 : zFok 9 (253, (9, 21)) := ⟨by decide, by decide, zr_38 _ (List.mem_of_getElem? (i := 11) rfl)⟩
theorem f_9_253 : zF 9 253 = some (9, 21) := rfl
theorem zF_9_250 : zFok 9 (250, (9, 22)) := ⟨by decide, by decide, zr_38 _ (List.mem_of_getElem? (i := 12) rfl)⟩
theorem f_9_250 : zF 9 250 = some (9, 22) := rfl
theorem zF_8_268 : zFok 8 (268, (7, 4)) := ⟨by decide, by decide, zr_39 _ (List.mem_of_getElem? (i := 1) rfl)⟩
theorem f_8_268 : zF 8 268 = some (7, 4) := rfl
theorem zF_8_278 : zFok 8 (278, (5, 1)) := ⟨by decide, by decide, zr_39 _ (List.mem_of_getElem? (i := 22) rfl)⟩
theorem f_8_278 : zF 8 278 = some (5, 1) := rfl
theorem zF_8_281 : zFok 8 (281, (5, 0)) := ⟨by decide, by decide, zr_39 _ (List.mem_of_getElem? (i := 23) rfl)⟩
theorem f_8_281 : zF 8 281 = some (5, 0) := rfl
theorem zF_5_15 : zFok 5 (15, (5, 1)) := ⟨by decide, by decide, zr_40 _ (List.mem_of_getElem? (i := 4) rfl)⟩
theorem f_5_15 : zF 5 15 = some (5, 1) := rfl
theorem zF_5_19 : zFok 5 (19, (6, 2)) := ⟨by decide, by decide, zr_40 _ (List.mem_of_getElem? (i := 5) rfl)⟩
theorem f_5_19 : zF 5 19 = some (6, 2) := rfl
theorem zF_5_24 : zFok 5 (24, (6, 3)) := ⟨by decide, by decide, zr_40 _ (List.mem_of_getElem? (i := 6) rfl)⟩
theorem f_5_24 : zF 5 24 = some (6, 3) := rfl
theorem zF_5_28 : zFok 5 (28, (3, 1)) := ⟨by decide, by decide, zr_40 _ (List.mem_of_getElem? (i := 7) rfl)⟩
theorem f_5_28 : zF 5 28 = some (3, 1) := rfl
theorem zF_5_41 : zFok 5 (41, (3, 2)) := ⟨by decide, by decide, zr_40 _ (List.mem_of_getElem? (i := 8) rfl)⟩
theorem f_5_41 : zF 5 41 = some (3, 2) := rfl
theorem zF_5_44 : zFok 5 (44, (3, 3)) := ⟨by decide, by decide, zr_40 _ (List.mem_of_getElem? (i := 9) rfl)⟩
theorem f_5_44 : zF 5 44 = some (3, 3) := rfl
theorem zF_5_50 : zFok 5 (50, (3, 4)) := ⟨by decide, by decide, zr_40 _ (List.mem_of_getElem? (i := 10) rfl)⟩
theorem f_5_50 : zF 5 50 = some (3, 4) := rfl
theorem zF_5_53 : zFok 5 (53, (6, 4)) := ⟨by decide, by decide, zr_40 _ (List.mem_of_getElem? (i := 11) rfl)⟩
theorem f_5_53 : zF 5 53 = some (6, 4) := rfl
theorem zF_9_262 : zFok 9 (262, (9, 24)) := ⟨by decide, by decide, zr_43 _ (List.mem_of_getElem? (i := 9) rfl)⟩
theorem f_9_262 : zF 9 262 = some (9, 24) := rfl
theorem zF_8_285 : zFok 8 (285, (0, 1)) := ⟨by decide, by decide, zr_44 _ (List.mem_of_getElem? (i := 8) rfl)⟩
theorem f_8_285 : zF 8 285 = some (0, 1) := rfl
theorem zF_8_286 : zFok 8 (286, (0, 0)) := ⟨by decide, by decide, zr_44 _ (List.mem_of_getElem? (i := 9) rfl)⟩
theorem f_8_286 : zF 8 286 = some (0, 0) := rfl
theorem zF_9_290 : zFok 9 (290, (9, 26)) := ⟨by decide, by decide, zr_44 _ (List.mem_of_getElem? (i := 14) rfl)⟩
theorem f_9_290 : zF 9 290 = some (9, 26) := rfl
theorem zF_8_290 : zFok 8 (290, (0, 3)) := ⟨by decide, by decide, zr_44 _ (List.mem_of_getElem? (i := 19) rfl)⟩
theorem f_8_290 : zF 8 290 = some (0, 3) := rfl
theorem zF_0_22 : zFok 0 (22, (0, 2)) := ⟨by decide, by decide, zr_45 _ (List.mem_of_getElem? (i := 0) rfl)⟩
theorem f_0_22 : zF 0 22 = some (0, 2) := rfl
theorem zF_0_26 : zFok 0 (26, (0, 3)) := ⟨by decide, by decide, zr_45 _ (List.mem_of_getElem? (i := 1) rfl)⟩
theorem f_0_26 : zF 0 26 = some (0, 3) := rfl
theorem zF_0_33 : zFok 0 (33, (0, 1)) := ⟨by decide, by decide, zr_45 _ (List.mem_of_getElem? (i := 2) rfl)⟩
theorem f_0_33 : zF 0 33 = some (0, 1) := rfl
theorem zF_8_354 : zFok 8 (354, (0, 5)) := ⟨by decide, by decide, zr_46 _ (List.mem_of_getElem? (i := 0) rfl)⟩
theorem f_8_354 : zF 8 354 = some (0, 5) := rfl
theorem zF_8_357 : zFok 8 (357, (0, 4)) := ⟨by decide, by decide, zr_46 _ (List.mem_of_getElem? (i := 1) rfl)⟩
theorem f_8_357 : zF 8 357 = some (0, 4) := rfl
theorem zF_9_292 : zFok 9 (292, (9, 27)) := ⟨by decide, by decide, zr_46 _ (List.mem_of_getElem? (i := 6) rfl)⟩
theorem f_9_292 : zF 9 292 = some (9, 27) := rfl
theorem zF_9_322 : zFok 9 (322, (9, 28)) := ⟨by decide, by decide, zr_46 _ (List.mem_of_getElem? (i := 7) rfl)⟩
theorem f_9_322 : zF 9 322 = some (9, 28) := rfl
theorem zF_9_363 : zFok 9 (363, (9, 2)) := ⟨by decide, by decide, zr_48 _ (List.mem_of_getElem? (i := 3) rfl)⟩
theorem f_9_363 : zF 9 363 = some (9, 2) := rfl
theorem zFo_0 : ∀ q ∈ zFo 0, zFok 0 q := List.forall_mem_cons.mpr ⟨zF_0_9, List.forall_mem_cons.mpr ⟨zF_0_15, List.forall_mem_cons.mpr ⟨zF_0_19, List.forall_mem_cons.mpr ⟨zF_0_22, List.forall_mem_cons.mpr ⟨zF_0_26, List.forall_mem_cons.mpr ⟨zF_0_33, fun _ h => absurd h List.not_mem_nil⟩⟩⟩⟩⟩⟩
theorem zFo_1 : ∀ q ∈ zFo 1, zFok 1 q := List.forall_mem_cons.mpr ⟨zF_1_11, List.forall_mem_cons.mpr ⟨zF_1_18, List.forall_mem_cons.mpr ⟨zF_1_26, fun _ h => absurd h List.not_mem_nil⟩⟩⟩
theorem zFo_2 : ∀ q ∈ zFo 2, zFok 2 q := List.forall_mem_cons.mpr ⟨zF_2_9, List.forall_mem_cons.mpr ⟨zF_2_15, List.forall_mem_cons.mpr ⟨zF_2_18, List.forall_mem_cons.mpr ⟨zF_2_21, fun _ h => absurd h List.not_mem_nil⟩⟩⟩⟩
theorem zFo_3 : ∀ q ∈ zFo 3, zFok 3 q := List.forall_mem_cons.mpr ⟨zF_3_9, List.forall_mem_cons.mpr ⟨zF_3_15, List.forall_mem_cons.mpr ⟨zF_3_18, List.forall_mem_cons.mpr ⟨zF_3_21, List.forall_mem_cons.mpr ⟨zF_3_24, List.forall_mem_cons.mpr ⟨zF_3_27, List.forall_mem_cons.mpr ⟨zF_3_30, List.forall_mem_cons.mpr ⟨zF_3_33, List.forall_mem_cons.mpr ⟨zF_3_36, List.forall_mem_cons.mpr ⟨zF_3_41, List.forall_mem_cons.mpr ⟨zF_3_44, List.forall_mem_cons.mpr ⟨zF_3_56, List.forall_mem_cons.mpr ⟨zF_3_60, fun _ h => absurd h List.not_mem_nil⟩⟩⟩⟩⟩⟩⟩⟩⟩⟩⟩⟩⟩
theorem zFo_4 : ∀ q ∈ zFo 4, zFok 4 q := List.forall_mem_cons.mpr ⟨zF_4_9, List.forall_mem_cons.mpr ⟨zF_4_15, List.forall_mem_cons.mpr ⟨zF_4_18, List.forall_mem_cons.mpr ⟨zF_4_22, List.forall_mem_cons.mpr ⟨zF_4_25, fun _ h => absurd h List.not_mem_nil⟩⟩⟩⟩⟩
theorem zFo_5 : ∀ q ∈ zFo 5, zFok 5 q := List.forall_mem_cons.mpr ⟨zF_5_9, List.forall_mem_cons.mpr ⟨zF_5_15, List.forall_mem_cons.mpr ⟨zF_5_19, List.forall_mem_cons.mpr ⟨zF_5_24, List.forall_mem_cons.mpr ⟨zF_5_28, List.forall_mem_cons.mpr ⟨zF_5_41, List.forall_mem_cons.mpr ⟨zF_5_44, List.forall_mem_cons.mpr ⟨zF_5_50, List.forall_mem_cons.mpr ⟨zF_5_53, fun _ h => absurd h List.not_mem_nil⟩⟩⟩⟩⟩⟩⟩⟩⟩
theorem zFo_6 : ∀ q ∈ zFo 6, zFok 6 q := List.forall_mem_cons.mpr ⟨zF_6_9, List.forall_mem_cons.mpr ⟨zF_6_15, List.forall_mem_cons.mpr ⟨zF_6_19, List.forall_mem_cons.mpr ⟨zF_6_22, List.forall_mem_cons.mpr ⟨zF_6_25, List.forall_mem_cons.mpr ⟨zF_6_28, List.forall_mem_cons.mpr ⟨zF_6_31, List.forall_mem_cons.mpr ⟨zF_6_34, List.forall_mem_cons.mpr ⟨zF_6_37, List.forall_mem_cons.mpr ⟨zF_6_40, List.forall_mem_cons.mpr ⟨zF_6_44, List.forall_mem_cons.mpr ⟨zF_6_49, List.forall_mem_cons.mpr ⟨zF_6_53, List.forall_mem_cons.mpr ⟨zF_6_56, List.forall_mem_cons.mpr ⟨zF_6_59, List.forall_mem_cons.mpr ⟨zF_6_62, List.forall_mem_cons.mpr ⟨zF_6_65, List.forall_mem_cons.mpr ⟨zF_6_73, List.forall_mem_cons.mpr ⟨zF_6_76, List.forall_mem_cons.mpr ⟨zF_6_79, List.forall_mem_cons.mpr ⟨zF_6_102, List.forall_mem_cons.mpr ⟨zF_6_86, List.forall_mem_cons.mpr ⟨zF_6_89, fun _ h => absurd h List.not_mem_nil⟩⟩⟩⟩⟩⟩⟩⟩⟩⟩⟩⟩⟩⟩⟩⟩⟩⟩⟩⟩⟩⟩⟩
theorem zFo_7 : ∀ q ∈ zFo 7, zFok 7 q := List.forall_mem_cons.mpr ⟨zF_7_9, List.forall_mem_cons.mpr ⟨zF_7_15, List.forall_mem_cons.mpr ⟨zF_7_18, List.forall_mem_cons.mpr ⟨zF_7_22, List.forall_mem_cons.mpr ⟨zF_7_26, List.forall_mem_cons.mpr ⟨zF_7_30, List.forall_mem_cons.mpr ⟨zF_7_33, List.forall_mem_cons.mpr ⟨zF_7_50, List.forall_mem_cons.mpr ⟨zF_7_79, List.forall_mem_cons.mpr ⟨zF_7_82, List.forall_mem_cons.mpr ⟨zF_7_85, fun _ h => absurd h List.not_mem_nil⟩⟩⟩⟩⟩⟩⟩⟩⟩⟩⟩
theorem zFo_8 : ∀ q ∈ zFo 8, zFok 8 q := List.forall_mem_cons.mpr ⟨zF_8_10, List.forall_mem_cons.mpr ⟨zF_8_16, List.forall_mem_cons.mpr ⟨zF_8_19, List.forall_mem_cons.mpr ⟨zF_8_22, List.forall_mem_cons.mpr ⟨zF_8_29, List.forall_mem_cons.mpr ⟨zF_8_38, List.forall_mem_cons.mpr ⟨zF_8_45, List.forall_mem_cons.mpr ⟨zF_8_52, List.forall_mem_cons.mpr ⟨zF_8_61, List.forall_mem_cons.mpr ⟨zF_8_68, List.forall_mem_cons.mpr ⟨zF_8_75, List.forall_mem_cons.mpr ⟨zF_8_93, List.forall_mem_cons.mpr ⟨zF_8_104, List.forall_mem_cons.mpr ⟨zF_8_108, List.forall_mem_cons.mpr ⟨zF_8_111, List.forall_mem_cons.mpr ⟨zF_8_114, List.forall_mem_cons.mpr ⟨zF_8_117, List.forall_mem_cons.mpr ⟨zF_8_97, List.forall_mem_cons.mpr ⟨zF_8_308, List.forall_mem_cons.mpr ⟨zF_8_131, List.forall_mem_cons.mpr ⟨zF_8_317, List.forall_mem_cons.mpr ⟨zF_8_185, List.forall_mem_cons.mpr ⟨zF_8_154, List.forall_mem_cons.mpr ⟨zF_8_147, List.forall_mem_cons.mpr ⟨zF_8_157, List.forall_mem_cons.mpr ⟨zF_8_160, List.forall_mem_cons.mpr ⟨zF_8_164, List.forall_mem_cons.mpr ⟨zF_8_167, List.forall_mem_cons.mpr ⟨zF_8_173, List.forall_mem_cons.mpr ⟨zF_8_179, List.forall_mem_cons.mpr ⟨zF_8_208, List.forall_mem_cons.mpr ⟨zF_8_223, List.forall_mem_cons.mpr ⟨zF_8_226, List.forall_mem_cons.mpr ⟨zF_8_238, List.forall_mem_cons.mpr ⟨zF_8_241, List.forall_mem_cons.mpr ⟨zF_8_244, List.forall_mem_cons.mpr ⟨zF_8_250, List.forall_mem_cons.mpr ⟨zF_8_256, List.forall_mem_cons.mpr ⟨zF_8_251, List.forall_mem_cons.mpr ⟨zF_8_254, List.forall_mem_cons.mpr ⟨zF_8_255, List.forall_mem_cons.mpr ⟨zF_8_262, List.forall_mem_cons.mpr ⟨zF_8_265, List.forall_mem_cons.mpr ⟨zF_8_268, List.forall_mem_cons.mpr ⟨zF_8_278, List.forall_mem_cons.mpr ⟨zF_8_281, List.forall_mem_cons.mpr ⟨zF_8_285, List.forall_mem_cons.mpr ⟨zF_8_286, List.forall_mem_cons.mpr ⟨zF_8_290, List.forall_mem_cons.mpr ⟨zF_8_354, List.forall_mem_cons.mpr ⟨zF_8_357, fun _ h => absurd h List.not_mem_nil⟩⟩⟩⟩⟩⟩⟩⟩⟩⟩⟩⟩⟩⟩⟩⟩⟩⟩⟩⟩⟩⟩⟩⟩⟩⟩⟩⟩⟩⟩⟩⟩⟩⟩⟩⟩⟩⟩⟩⟩⟩⟩⟩⟩⟩⟩⟩⟩⟩⟩⟩
theorem zFo_9 : ∀ q ∈ zFo 9, zFok 9 q := List.forall_mem_cons.mpr ⟨zF_9_9, List.forall_mem_cons.mpr ⟨zF_9_13, List.forall_mem_cons.mpr ⟨zF_9_16, List.forall_mem_cons.mpr ⟨zF_9_19, List.forall_mem_cons.mpr ⟨zF_9_22, List.forall_mem_cons.mpr ⟨zF_9_25, List.forall_mem_cons.mpr ⟨zF_9_28, List.forall_mem_cons.mpr ⟨zF_9_31, List.forall_mem_cons.mpr ⟨zF_9_34, List.forall_mem_cons.mpr ⟨zF_9_37, List.forall_mem_cons.mpr ⟨zF_9_40, List.forall_mem_cons.mpr ⟨zF_9_44, List.forall_mem_cons.mpr ⟨zF_9_47, List.forall_mem_cons.mpr ⟨zF_9_71, List.forall_mem_cons.mpr ⟨zF_9_67, List.forall_mem_cons.mpr ⟨zF_9_114, List.forall_mem_cons.mpr ⟨zF_9_117, List.forall_mem_cons.mpr ⟨zF_9_203, List.forall_mem_cons.mpr ⟨zF_9_221, List.forall_mem_cons.mpr ⟨zF_9_230, List.forall_mem_cons.mpr ⟨zF_9_224, List.forall_mem_cons.mpr ⟨zF_9_227, List.forall_mem_cons.mpr ⟨zF_9_243, List.forall_mem_cons.mpr ⟨zF_9_253, List.forall_mem_cons.mpr ⟨zF_9_250, List.forall_mem_cons.mpr ⟨zF_9_262, List.forall_mem_cons.mpr ⟨zF_9_290, List.forall_mem_cons.mpr ⟨zF_9_292, List.forall_mem_cons.mpr ⟨zF_9_322, List.forall_mem_cons.mpr ⟨zF_9_363, fun _ h => absurd h List.not_mem_nil⟩⟩⟩⟩⟩⟩⟩⟩⟩⟩⟩⟩⟩⟩⟩⟩⟩⟩⟩⟩⟩⟩⟩⟩⟩⟩⟩⟩⟩⟩
theorem zlk {β : Type} {l : List (Nat × β)} {i : Nat} {b : β} (h : l.lookup i = some b) : (i, b) ∈ l := by
  induction l with
  | nil => cases h
  | cons a l ih =>
    obtain ⟨j, c⟩ := a
    rw [List.lookup_cons] at h
    split at h
    · rename_i e
      have e : i = j := by simpa using e
      cases h
      rw [e]
      exact List.mem_cons_self
    · exact List.mem_cons_of_mem _ (ih h)
theorem zF_ok {n idx ci k : Nat} (h : zF n idx = some (ci, k)) : zFok n (idx, (ci, k)) := by
  have hm := zlk h
  by_cases hn : n < 10
  · rcases (show n = 0 ∨ n = 1 ∨ n = 2 ∨ n = 3 ∨ n = 4 ∨ n = 5 ∨ n = 6 ∨ n = 7 ∨ n = 8 ∨ n = 9 by omega) with rfl | rfl | rfl | rfl | rfl | rfl | rfl | rfl | rfl | rfl
    · exact zFo_0 _ hm
    · exact zFo_1 _ hm
    · exact zFo_2 _ hm
    · exact zFo_3 _ hm
    · exact zFo_4 _ hm
    · exact zFo_5 _ hm
    · exact zFo_6 _ hm
    · exact zFo_7 _ hm
    · exact zFo_8 _ hm
    · exact zFo_9 _ hm
  · exfalso
    have : zFo n = [] := by
      unfold zFo
      split <;> first | rfl | omega
    rw [this] at hm
    cases hm
abbrev zMth : Type := MethodName × ByteArray × Nat × Option FieldType × Nat × Nat × Nat
def mX0_hasWord : zMth := (yX0_hasWord, cX0_hasWord, 4, (some .boolean), 0, 0, 0)
theorem oX0_hasWord : mX0_hasWord.2.2.2.2.1 = 0 := rfl
theorem rX0_hasWord : mX0_hasWord.2.2.2.1 = (some .boolean) := rfl
theorem nX0_hasWord : mX0_hasWord.2.2.1 = 4 := rfl
def mX0_init : zMth := (yX0_init, cX0_init, 1, none, 0, 3, 360)
theorem oX0_init : mX0_init.2.2.2.2.1 = 0 := rfl
theorem rX0_init : mX0_init.2.2.2.1 = none := rfl
theorem nX0_init : mX0_init.2.2.1 = 1 := rfl
def mX0_parse : zMth := (yX0_parse, cX0_parse, 2, (some .int), 0, 0, 0)
theorem oX0_parse : mX0_parse.2.2.2.2.1 = 0 := rfl
theorem rX0_parse : mX0_parse.2.2.2.1 = (some .int) := rfl
theorem nX0_parse : mX0_parse.2.2.1 = 2 := rfl
def mX0_parseCommand : zMth := (yX0_parseCommand, cX0_parseCommand, 5, (some .boolean), 0, 0, 0)
theorem oX0_parseCommand : mX0_parseCommand.2.2.2.2.1 = 0 := rfl
theorem rX0_parseCommand : mX0_parseCommand.2.2.2.1 = (some .boolean) := rfl
theorem nX0_parseCommand : mX0_parseCommand.2.2.1 = 5 := rfl
def mX0_parseNumber : zMth := (yX0_parseNumber, cX0_parseNumber, 4, (some .boolean), 0, 0, 0)
theorem oX0_parseNumber : mX0_parseNumber.2.2.2.2.1 = 0 := rfl
theorem rX0_parseNumber : mX0_parseNumber.2.2.2.1 = (some .boolean) := rfl
theorem nX0_parseNumber : mX0_parseNumber.2.2.1 = 4 := rfl
def mX0_wordOf : zMth := (yX0_wordOf, cX0_wordOf, 1, (some (.object "java/lang/String")), 0, 0, 0)
theorem oX0_wordOf : mX0_wordOf.2.2.2.2.1 = 0 := rfl
theorem rX0_wordOf : mX0_wordOf.2.2.2.1 = (some (.object "java/lang/String")) := rfl
theorem nX0_wordOf : mX0_wordOf.2.2.1 = 1 := rfl
def mX1_init : zMth := (yX1_init, cX1_init, 2, none, 1, 145, 2672)
theorem oX1_init : mX1_init.2.2.2.2.1 = 1 := rfl
theorem rX1_init : mX1_init.2.2.2.1 = none := rfl
theorem nX1_init : mX1_init.2.2.1 = 2 := rfl
def mX1_remember : zMth := (yX1_remember, cX1_remember, 2, none, 1, 0, 0)
theorem oX1_remember : mX1_remember.2.2.2.2.1 = 1 := rfl
theorem rX1_remember : mX1_remember.2.2.2.1 = none := rfl
theorem nX1_remember : mX1_remember.2.2.1 = 2 := rfl
def mX1_takeBack : zMth := (yX1_takeBack, cX1_takeBack, 2, (some .int), 1, 0, 0)
theorem oX1_takeBack : mX1_takeBack.2.2.2.2.1 = 1 := rfl
theorem rX1_takeBack : mX1_takeBack.2.2.2.1 = (some .int) := rfl
theorem nX1_takeBack : mX1_takeBack.2.2.1 = 2 := rfl
def mX2_init : zMth := (yX2_init, cX2_init, 1, none, 2, 0, 0)
theorem oX2_init : mX2_init.2.2.2.2.1 = 2 := rfl
theorem rX2_init : mX2_init.2.2.2.1 = none := rfl
theorem nX2_init : mX2_init.2.2.1 = 1 := rfl
def mX2_isWorseThan : zMth := (yX2_isWorseThan, cX2_isWorseThan, 3, (some .boolean), 2, 0, 0)
theorem oX2_isWorseThan : mX2_isWorseThan.2.2.2.2.1 = 2 := rfl
theorem rX2_isWorseThan : mX2_isWorseThan.2.2.2.1 = (some .boolean) := rfl
theorem nX2_isWorseThan : mX2_isWorseThan.2.2.1 = 3 := rfl
def mX2_set : zMth := (yX2_set, cX2_set, 5, none, 2, 0, 0)
theorem oX2_set : mX2_set.2.2.2.2.1 = 2 := rfl
theorem rX2_set : mX2_set.2.2.2.1 = none := rfl
theorem nX2_set : mX2_set.2.2.1 = 5 := rfl
def mX3_copyFrom : zMth := (yX3_copyFrom, cX3_copyFrom, 3, none, 3, 0, 0)
theorem oX3_copyFrom : mX3_copyFrom.2.2.2.2.1 = 3 := rfl
theorem rX3_copyFrom : mX3_copyFrom.2.2.2.1 = none := rfl
theorem nX3_copyFrom : mX3_copyFrom.2.2.1 = 3 := rfl
def mX3_flyerOf : zMth := (yX3_flyerOf, cX3_flyerOf, 3, (some .int), 3, 0, 0)
theorem oX3_flyerOf : mX3_flyerOf.2.2.2.2.1 = 3 := rfl
theorem rX3_flyerOf : mX3_flyerOf.2.2.2.1 = (some .int) := rfl
theorem nX3_flyerOf : mX3_flyerOf.2.2.1 = 3 := rfl
def mX3_hasCrew : zMth := (yX3_hasCrew, cX3_hasCrew, 2, (some .boolean), 3, 0, 0)
theorem oX3_hasCrew : mX3_hasCrew.2.2.2.2.1 = 3 := rfl
theorem rX3_hasCrew : mX3_hasCrew.2.2.2.1 = (some .boolean) := rfl
theorem nX3_hasCrew : mX3_hasCrew.2.2.1 = 2 := rfl
def mX3_hasLeg : zMth := (yX3_hasLeg, cX3_hasLeg, 2, (some .boolean), 3, 0, 0)
theorem oX3_hasLeg : mX3_hasLeg.2.2.2.2.1 = 3 := rfl
theorem rX3_hasLeg : mX3_hasLeg.2.2.2.1 = (some .boolean) := rfl
theorem nX3_hasLeg : mX3_hasLeg.2.2.1 = 2 := rfl
def mX3_hasTwin : zMth := (yX3_hasTwin, cX3_hasTwin, 6, (some .boolean), 3, 0, 0)
theorem oX3_hasTwin : mX3_hasTwin.2.2.2.2.1 = 3 := rfl
theorem rX3_hasTwin : mX3_hasTwin.2.2.2.1 = (some .boolean) := rfl
theorem nX3_hasTwin : mX3_hasTwin.2.2.1 = 6 := rfl
def mX3_init : zMth := (yX3_init, cX3_init, 1, none, 3, 17, 320)
theorem oX3_init : mX3_init.2.2.2.2.1 = 3 := rfl
theorem rX3_init : mX3_init.2.2.2.1 = none := rfl
theorem nX3_init : mX3_init.2.2.1 = 1 := rfl
def mX3_isOnCall : zMth := (yX3_isOnCall, cX3_isOnCall, 3, (some .boolean), 3, 0, 0)
theorem oX3_isOnCall : mX3_isOnCall.2.2.2.2.1 = 3 := rfl
theorem rX3_isOnCall : mX3_isOnCall.2.2.2.1 = (some .boolean) := rfl
theorem nX3_isOnCall : mX3_isOnCall.2.2.1 = 3 := rfl
def mX3_isOpen : zMth := (yX3_isOpen, cX3_isOpen, 2, (some .boolean), 3, 0, 0)
theorem oX3_isOpen : mX3_isOpen.2.2.2.2.1 = 3 := rfl
theorem rX3_isOpen : mX3_isOpen.2.2.2.1 = (some .boolean) := rfl
theorem nX3_isOpen : mX3_isOpen.2.2.1 = 2 := rfl
def mX3_isReserve : zMth := (yX3_isReserve, cX3_isReserve, 2, (some .boolean), 3, 0, 0)
theorem oX3_isReserve : mX3_isReserve.2.2.2.2.1 = 3 := rfl
theorem rX3_isReserve : mX3_isReserve.2.2.2.1 = (some .boolean) := rfl
theorem nX3_isReserve : mX3_isReserve.2.2.1 = 2 := rfl
def mX3_lengthOf : zMth := (yX3_lengthOf, cX3_lengthOf, 2, (some .int), 3, 0, 0)
theorem oX3_lengthOf : mX3_lengthOf.2.2.2.2.1 = 3 := rfl
theorem rX3_lengthOf : mX3_lengthOf.2.2.2.1 = (some .int) := rfl
theorem nX3_lengthOf : mX3_lengthOf.2.2.1 = 2 := rfl
def mX3_minutesOf : zMth := (yX3_minutesOf, cX3_minutesOf, 4, (some .int), 3, 0, 0)
theorem oX3_minutesOf : mX3_minutesOf.2.2.2.2.1 = 3 := rfl
theorem rX3_minutesOf : mX3_minutesOf.2.2.2.1 = (some .int) := rfl
theorem nX3_minutesOf : mX3_minutesOf.2.2.1 = 4 := rfl
def mX3_sortLegs : zMth := (yX3_sortLegs, cX3_sortLegs, 3, none, 3, 0, 0)
theorem oX3_sortLegs : mX3_sortLegs.2.2.2.2.1 = 3 := rfl
theorem rX3_sortLegs : mX3_sortLegs.2.2.2.1 = none := rfl
theorem nX3_sortLegs : mX3_sortLegs.2.2.1 = 3 := rfl
def mX4_add : zMth := (yX4_add, cX4_add, 4, none, 4, 0, 0)
theorem oX4_add : mX4_add.2.2.2.2.1 = 4 := rfl
theorem rX4_add : mX4_add.2.2.2.1 = none := rfl
theorem nX4_add : mX4_add.2.2.1 = 4 := rfl
def mX4_flownEntry : zMth := (yX4_flownEntry, cX4_flownEntry, 3, (some .int), 4, 0, 0)
theorem oX4_flownEntry : mX4_flownEntry.2.2.2.2.1 = 4 := rfl
theorem rX4_flownEntry : mX4_flownEntry.2.2.2.1 = (some .int) := rfl
theorem nX4_flownEntry : mX4_flownEntry.2.2.1 = 3 := rfl
def mX4_init : zMth := (yX4_init, cX4_init, 1, none, 4, 4, 576)
theorem oX4_init : mX4_init.2.2.2.2.1 = 4 := rfl
theorem rX4_init : mX4_init.2.2.2.1 = none := rfl
theorem nX4_init : mX4_init.2.2.1 = 1 := rfl
def mX5_init : zMth := (yX5_init, cX5_init, 1, none, 5, 1, 600)
theorem oX5_init : mX5_init.2.2.2.2.1 = 5 := rfl
theorem rX5_init : mX5_init.2.2.2.1 = none := rfl
theorem nX5_init : mX5_init.2.2.1 = 1 := rfl
def mX5_put : zMth := (yX5_put, cX5_put, 2, none, 5, 0, 0)
theorem oX5_put : mX5_put.2.2.2.2.1 = 5 := rfl
theorem rX5_put : mX5_put.2.2.2.1 = none := rfl
theorem nX5_put : mX5_put.2.2.1 = 2 := rfl
def mX5_putDigit : zMth := (yX5_putDigit, cX5_putDigit, 2, none, 5, 0, 0)
theorem oX5_putDigit : mX5_putDigit.2.2.2.2.1 = 5 := rfl
theorem rX5_putDigit : mX5_putDigit.2.2.2.1 = none := rfl
theorem nX5_putDigit : mX5_putDigit.2.2.1 = 2 := rfl
def mX5_putTime : zMth := (yX5_putTime, cX5_putTime, 4, none, 5, 0, 0)
theorem oX5_putTime : mX5_putTime.2.2.2.2.1 = 5 := rfl
theorem rX5_putTime : mX5_putTime.2.2.2.1 = none := rfl
theorem nX5_putTime : mX5_putTime.2.2.1 = 4 := rfl
def mX5_putWord : zMth := (yX5_putWord, cX5_putWord, 3, none, 5, 0, 0)
theorem oX5_putWord : mX5_putWord.2.2.2.2.1 = 5 := rfl
theorem rX5_putWord : mX5_putWord.2.2.2.1 = none := rfl
theorem nX5_putWord : mX5_putWord.2.2.1 = 3 := rfl
def mX5_write : zMth := (yX5_write, cX5_write, 5, none, 5, 0, 0)
theorem oX5_write : mX5_write.2.2.2.2.1 = 5 := rfl
theorem rX5_write : mX5_write.2.2.2.1 = none := rfl
theorem nX5_write : mX5_write.2.2.1 = 5 := rfl
def mX6_append : zMth := (yX6_append, cX6_append, 5, none, 6, 0, 0)
theorem oX6_append : mX6_append.2.2.2.2.1 = 6 := rfl
theorem rX6_append : mX6_append.2.2.2.1 = none := rfl
theorem nX6_append : mX6_append.2.2.1 = 5 := rfl
def mX6_breaks : zMth := (yX6_breaks, cX6_breaks, 5, (some .boolean), 6, 0, 0)
theorem oX6_breaks : mX6_breaks.2.2.2.2.1 = 6 := rfl
theorem rX6_breaks : mX6_breaks.2.2.2.1 = (some .boolean) := rfl
theorem nX6_breaks : mX6_breaks.2.2.1 = 5 := rfl
def mX6_endsAtBase : zMth := (yX6_endsAtBase, cX6_endsAtBase, 2, (some .boolean), 6, 0, 0)
theorem oX6_endsAtBase : mX6_endsAtBase.2.2.2.2.1 = 6 := rfl
theorem rX6_endsAtBase : mX6_endsAtBase.2.2.2.1 = (some .boolean) := rfl
theorem nX6_endsAtBase : mX6_endsAtBase.2.2.1 = 2 := rfl
def mX6_findViolations : zMth := (yX6_findViolations, cX6_findViolations, 5, (some .int), 6, 0, 0)
theorem oX6_findViolations : mX6_findViolations.2.2.2.2.1 = 6 := rfl
theorem rX6_findViolations : mX6_findViolations.2.2.2.1 = (some .int) := rfl
theorem nX6_findViolations : mX6_findViolations.2.2.1 = 5 := rfl
def mX6_flownWithin : zMth := (yX6_flownWithin, cX6_flownWithin, 8, (some .int), 6, 0, 0)
theorem oX6_flownWithin : mX6_flownWithin.2.2.2.2.1 = 6 := rfl
theorem rX6_flownWithin : mX6_flownWithin.2.2.2.1 = (some .int) := rfl
theorem nX6_flownWithin : mX6_flownWithin.2.2.1 = 8 := rfl
def mX6_init : zMth := (yX6_init, cX6_init, 2, none, 6, 9, 504)
theorem oX6_init : mX6_init.2.2.2.2.1 = 6 := rfl
theorem rX6_init : mX6_init.2.2.2.1 = none := rfl
theorem nX6_init : mX6_init.2.2.1 = 2 := rfl
def mX6_isHome : zMth := (yX6_isHome, cX6_isHome, 1, (some .boolean), 6, 0, 0)
theorem oX6_isHome : mX6_isHome.2.2.2.2.1 = 6 := rfl
theorem rX6_isHome : mX6_isHome.2.2.2.1 = (some .boolean) := rfl
theorem nX6_isHome : mX6_isHome.2.2.1 = 1 := rfl
def mX6_lastBreaks : zMth := (yX6_lastBreaks, cX6_lastBreaks, 4, (some .boolean), 6, 0, 0)
theorem oX6_lastBreaks : mX6_lastBreaks.2.2.2.2.1 = 6 := rfl
theorem rX6_lastBreaks : mX6_lastBreaks.2.2.2.1 = (some .boolean) := rfl
theorem nX6_lastBreaks : mX6_lastBreaks.2.2.1 = 4 := rfl
def mX6_load : zMth := (yX6_load, cX6_load, 5, none, 6, 0, 0)
theorem oX6_load : mX6_load.2.2.2.2.1 = 6 := rfl
theorem rX6_load : mX6_load.2.2.2.1 = none := rfl
theorem nX6_load : mX6_load.2.2.1 = 5 := rfl
def mX6_nightCount : zMth := (yX6_nightCount, cX6_nightCount, 3, (some .int), 6, 0, 0)
theorem oX6_nightCount : mX6_nightCount.2.2.2.2.1 = 6 := rfl
theorem rX6_nightCount : mX6_nightCount.2.2.2.1 = (some .int) := rfl
theorem nX6_nightCount : mX6_nightCount.2.2.1 = 3 := rfl
def mX6_overfillsWindow : zMth := (yX6_overfillsWindow, cX6_overfillsWindow, 2, (some .boolean), 6, 0, 0)
theorem oX6_overfillsWindow : mX6_overfillsWindow.2.2.2.2.1 = 6 := rfl
theorem rX6_overfillsWindow : mX6_overfillsWindow.2.2.2.1 = (some .boolean) := rfl
theorem nX6_overfillsWindow : mX6_overfillsWindow.2.2.1 = 2 := rfl
def mX6_pairingCount : zMth := (yX6_pairingCount, cX6_pairingCount, 3, (some .int), 6, 0, 0)
theorem oX6_pairingCount : mX6_pairingCount.2.2.2.2.1 = 6 := rfl
theorem rX6_pairingCount : mX6_pairingCount.2.2.2.1 = (some .int) := rfl
theorem nX6_pairingCount : mX6_pairingCount.2.2.1 = 3 := rfl
def mX6_positionOf : zMth := (yX6_positionOf, cX6_positionOf, 3, (some .int), 6, 0, 0)
theorem oX6_positionOf : mX6_positionOf.2.2.2.2.1 = 6 := rfl
theorem rX6_positionOf : mX6_positionOf.2.2.2.1 = (some .int) := rfl
theorem nX6_positionOf : mX6_positionOf.2.2.1 = 3 := rfl
def mX6_removeLast : zMth := (yX6_removeLast, cX6_removeLast, 2, none, 6, 0, 0)
theorem oX6_removeLast : mX6_removeLast.2.2.2.2.1 = 6 := rfl
theorem rX6_removeLast : mX6_removeLast.2.2.2.1 = none := rfl
theorem nX6_removeLast : mX6_removeLast.2.2.1 = 2 := rfl
def mX6_rideMinutes : zMth := (yX6_rideMinutes, cX6_rideMinutes, 3, (some .int), 6, 0, 0)
theorem oX6_rideMinutes : mX6_rideMinutes.2.2.2.2.1 = 6 := rfl
theorem rX6_rideMinutes : mX6_rideMinutes.2.2.2.1 = (some .int) := rfl
theorem nX6_rideMinutes : mX6_rideMinutes.2.2.1 = 3 := rfl
def mX6_sizeOf : zMth := (yX6_sizeOf, cX6_sizeOf, 2, (some .int), 6, 0, 0)
theorem oX6_sizeOf : mX6_sizeOf.2.2.2.2.1 = 6 := rfl
theorem rX6_sizeOf : mX6_sizeOf.2.2.2.1 = (some .int) := rfl
theorem nX6_sizeOf : mX6_sizeOf.2.2.1 = 2 := rfl
def mX6_spanOf : zMth := (yX6_spanOf, cX6_spanOf, 2, (some .int), 6, 0, 0)
theorem oX6_spanOf : mX6_spanOf.2.2.2.2.1 = 6 := rfl
theorem rX6_spanOf : mX6_spanOf.2.2.2.1 = (some .int) := rfl
theorem nX6_spanOf : mX6_spanOf.2.2.1 = 2 := rfl
def mX7_extend : zMth := (yX7_extend, cX7_extend, 3, none, 7, 0, 0)
theorem oX7_extend : mX7_extend.2.2.2.2.1 = 7 := rfl
theorem rX7_extend : mX7_extend.2.2.2.1 = none := rfl
theorem nX7_extend : mX7_extend.2.2.1 = 3 := rfl
def mX7_init : zMth := (yX7_init, cX7_init, 3, none, 7, 2, 12)
theorem oX7_init : mX7_init.2.2.2.2.1 = 7 := rfl
theorem rX7_init : mX7_init.2.2.2.1 = none := rfl
theorem nX7_init : mX7_init.2.2.1 = 3 := rfl
def mX7_isBehind : zMth := (yX7_isBehind, cX7_isBehind, 3, (some .boolean), 7, 0, 0)
theorem oX7_isBehind : mX7_isBehind.2.2.2.2.1 = 7 := rfl
theorem rX7_isBehind : mX7_isBehind.2.2.2.1 = (some .boolean) := rfl
theorem nX7_isBehind : mX7_isBehind.2.2.1 = 3 := rfl
def mX7_judge : zMth := (yX7_judge, cX7_judge, 2, none, 7, 0, 0)
theorem oX7_judge : mX7_judge.2.2.2.2.1 = 7 := rfl
theorem rX7_judge : mX7_judge.2.2.2.1 = none := rfl
theorem nX7_judge : mX7_judge.2.2.1 = 2 := rfl
def mX7_run : zMth := (yX7_run, cX7_run, 2, none, 7, 0, 0)
theorem oX7_run : mX7_run.2.2.2.2.1 = 7 := rfl
theorem rX7_run : mX7_run.2.2.2.1 = none := rfl
theorem nX7_run : mX7_run.2.2.1 = 2 := rfl
def mX8_addCrew : zMth := (yX8_addCrew, cX8_addCrew, 2, (some .int), 8, 0, 0)
theorem oX8_addCrew : mX8_addCrew.2.2.2.2.1 = 8 := rfl
theorem rX8_addCrew : mX8_addCrew.2.2.2.1 = (some .int) := rfl
theorem nX8_addCrew : mX8_addCrew.2.2.1 = 2 := rfl
def mX8_addLeg : zMth := (yX8_addLeg, cX8_addLeg, 5, (some .int), 8, 0, 0)
theorem oX8_addLeg : mX8_addLeg.2.2.2.2.1 = 8 := rfl
theorem rX8_addLeg : mX8_addLeg.2.2.2.1 = (some .int) := rfl
theorem nX8_addLeg : mX8_addLeg.2.2.1 = 5 := rfl
def mX8_bestLeg : zMth := (yX8_bestLeg, cX8_bestLeg, 3, (some .int), 8, 0, 0)
theorem oX8_bestLeg : mX8_bestLeg.2.2.2.2.1 = 8 := rfl
theorem rX8_bestLeg : mX8_bestLeg.2.2.2.1 = (some .int) := rfl
theorem nX8_bestLeg : mX8_bestLeg.2.2.1 = 3 := rfl
def mX8_bestMinutes : zMth := (yX8_bestMinutes, cX8_bestMinutes, 2, (some .int), 8, 0, 0)
theorem oX8_bestMinutes : mX8_bestMinutes.2.2.2.2.1 = 8 := rfl
theorem rX8_bestMinutes : mX8_bestMinutes.2.2.2.1 = (some .int) := rfl
theorem nX8_bestMinutes : mX8_bestMinutes.2.2.1 = 2 := rfl
def mX8_called : zMth := (yX8_called, cX8_called, 2, (some .int), 8, 0, 0)
theorem oX8_called : mX8_called.2.2.2.2.1 = 8 := rfl
theorem rX8_called : mX8_called.2.2.2.1 = (some .int) := rfl
theorem nX8_called : mX8_called.2.2.1 = 2 := rfl
def mX8_cancel : zMth := (yX8_cancel, cX8_cancel, 2, (some .int), 8, 0, 0)
theorem oX8_cancel : mX8_cancel.2.2.2.2.1 = 8 := rfl
theorem rX8_cancel : mX8_cancel.2.2.2.1 = (some .int) := rfl
theorem nX8_cancel : mX8_cancel.2.2.1 = 2 := rfl
def mX8_changeReserve : zMth := (yX8_changeReserve, cX8_changeReserve, 5, (some .int), 8, 0, 0)
theorem oX8_changeReserve : mX8_changeReserve.2.2.2.2.1 = 8 := rfl
theorem rX8_changeReserve : mX8_changeReserve.2.2.2.1 = (some .int) := rfl
theorem nX8_changeReserve : mX8_changeReserve.2.2.1 = 5 := rfl
def mX8_changeRule : zMth := (yX8_changeRule, cX8_changeRule, 4, (some .int), 8, 0, 0)
theorem oX8_changeRule : mX8_changeRule.2.2.2.2.1 = 8 := rfl
theorem rX8_changeRule : mX8_changeRule.2.2.2.1 = (some .int) := rfl
theorem nX8_changeRule : mX8_changeRule.2.2.1 = 4 := rfl
def mX8_clearViolations : zMth := (yX8_clearViolations, cX8_clearViolations, 5, none, 8, 0, 0)
theorem oX8_clearViolations : mX8_clearViolations.2.2.2.2.1 = 8 := rfl
theorem rX8_clearViolations : mX8_clearViolations.2.2.2.1 = none := rfl
theorem nX8_clearViolations : mX8_clearViolations.2.2.1 = 5 := rfl
def mX8_cost : zMth := (yX8_cost, cX8_cost, 5, (some .int), 8, 0, 0)
theorem oX8_cost : mX8_cost.2.2.2.2.1 = 8 := rfl
theorem rX8_cost : mX8_cost.2.2.2.1 = (some .int) := rfl
theorem nX8_cost : mX8_cost.2.2.1 = 5 := rfl
def mX8_costOf : zMth := (yX8_costOf, cX8_costOf, 4, (some .int), 8, 0, 0)
theorem oX8_costOf : mX8_costOf.2.2.2.2.1 = 8 := rfl
theorem rX8_costOf : mX8_costOf.2.2.2.1 = (some .int) := rfl
theorem nX8_costOf : mX8_costOf.2.2.1 = 4 := rfl
def mX8_crewCount : zMth := (yX8_crewCount, cX8_crewCount, 1, (some .int), 8, 0, 0)
theorem oX8_crewCount : mX8_crewCount.2.2.2.2.1 = 8 := rfl
theorem rX8_crewCount : mX8_crewCount.2.2.2.1 = (some .int) := rfl
theorem nX8_crewCount : mX8_crewCount.2.2.1 = 1 := rfl
def mX8_delay : zMth := (yX8_delay, cX8_delay, 3, (some .int), 8, 0, 0)
theorem oX8_delay : mX8_delay.2.2.2.2.1 = 8 := rfl
theorem rX8_delay : mX8_delay.2.2.2.1 = (some .int) := rfl
theorem nX8_delay : mX8_delay.2.2.1 = 3 := rfl
def mX8_drop : zMth := (yX8_drop, cX8_drop, 3, (some .int), 8, 0, 0)
theorem oX8_drop : mX8_drop.2.2.2.2.1 = 8 := rfl
theorem rX8_drop : mX8_drop.2.2.2.1 = (some .int) := rfl
theorem nX8_drop : mX8_drop.2.2.1 = 3 := rfl
def mX8_duty : zMth := (yX8_duty, cX8_duty, 4, (some .int), 8, 0, 0)
theorem oX8_duty : mX8_duty.2.2.2.2.1 = 8 := rfl
theorem rX8_duty : mX8_duty.2.2.2.1 = (some .int) := rfl
theorem nX8_duty : mX8_duty.2.2.1 = 4 := rfl
def mX8_dutyCount : zMth := (yX8_dutyCount, cX8_dutyCount, 2, (some .int), 8, 0, 0)
theorem oX8_dutyCount : mX8_dutyCount.2.2.2.2.1 = 8 := rfl
theorem rX8_dutyCount : mX8_dutyCount.2.2.2.1 = (some .int) := rfl
theorem nX8_dutyCount : mX8_dutyCount.2.2.1 = 2 := rfl
def mX8_execute : zMth := (yX8_execute, cX8_execute, 3, (some .int), 8, 0, 0)
theorem oX8_execute : mX8_execute.2.2.2.2.1 = 8 := rfl
theorem rX8_execute : mX8_execute.2.2.2.1 = (some .int) := rfl
theorem nX8_execute : mX8_execute.2.2.1 = 3 := rfl
def mX8_feed : zMth := (yX8_feed, cX8_feed, 2, (some .int), 8, 0, 0)
theorem oX8_feed : mX8_feed.2.2.2.2.1 = 8 := rfl
theorem rX8_feed : mX8_feed.2.2.2.1 = (some .int) := rfl
theorem nX8_feed : mX8_feed.2.2.1 = 2 := rfl
def mX8_findOffer : zMth := (yX8_findOffer, cX8_findOffer, 7, none, 8, 0, 0)
theorem oX8_findOffer : mX8_findOffer.2.2.2.2.1 = 8 := rfl
theorem rX8_findOffer : mX8_findOffer.2.2.2.1 = none := rfl
theorem nX8_findOffer : mX8_findOffer.2.2.1 = 7 := rfl
def mX8_fly : zMth := (yX8_fly, cX8_fly, 3, (some .int), 8, 0, 0)
theorem oX8_fly : mX8_fly.2.2.2.2.1 = 8 := rfl
theorem rX8_fly : mX8_fly.2.2.2.1 = (some .int) := rfl
theorem nX8_fly : mX8_fly.2.2.1 = 3 := rfl
def mX8_home : zMth := (yX8_home, cX8_home, 2, (some .int), 8, 0, 0)
theorem oX8_home : mX8_home.2.2.2.2.1 = 8 := rfl
theorem rX8_home : mX8_home.2.2.2.1 = (some .int) := rfl
theorem nX8_home : mX8_home.2.2.1 = 2 := rfl
def mX8_init : zMth := (yX8_init, cX8_init, 1, none, 8, 225, 5764)
theorem oX8_init : mX8_init.2.2.2.2.1 = 8 := rfl
theorem rX8_init : mX8_init.2.2.2.1 = none := rfl
theorem nX8_init : mX8_init.2.2.1 = 1 := rfl
def mX8_isIn : zMth := (yX8_isIn, cX8_isIn, 3, (some .boolean), 8, 0, 0)
theorem oX8_isIn : mX8_isIn.2.2.2.2.1 = 8 := rfl
theorem rX8_isIn : mX8_isIn.2.2.2.1 = (some .boolean) := rfl
theorem nX8_isIn : mX8_isIn.2.2.1 = 3 := rfl
def mX8_item : zMth := (yX8_item, cX8_item, 4, (some .int), 8, 0, 0)
theorem oX8_item : mX8_item.2.2.2.2.1 = 8 := rfl
theorem rX8_item : mX8_item.2.2.2.1 = (some .int) := rfl
theorem nX8_item : mX8_item.2.2.1 = 4 := rfl
def mX8_itemCount : zMth := (yX8_itemCount, cX8_itemCount, 2, (some .int), 8, 0, 0)
theorem oX8_itemCount : mX8_itemCount.2.2.2.2.1 = 8 := rfl
theorem rX8_itemCount : mX8_itemCount.2.2.2.1 = (some .int) := rfl
theorem nX8_itemCount : mX8_itemCount.2.2.1 = 2 := rfl
def mX8_kept : zMth := (yX8_kept, cX8_kept, 2, (some .int), 8, 0, 0)
theorem oX8_kept : mX8_kept.2.2.2.2.1 = 8 := rfl
theorem rX8_kept : mX8_kept.2.2.2.1 = (some .int) := rfl
theorem nX8_kept : mX8_kept.2.2.1 = 2 := rfl
def mX8_leave : zMth := (yX8_leave, cX8_leave, 3, (some .int), 8, 0, 0)
theorem oX8_leave : mX8_leave.2.2.2.2.1 = 8 := rfl
theorem rX8_leave : mX8_leave.2.2.2.1 = (some .int) := rfl
theorem nX8_leave : mX8_leave.2.2.1 = 3 := rfl
def mX8_leg : zMth := (yX8_leg, cX8_leg, 3, (some .int), 8, 0, 0)
theorem oX8_leg : mX8_leg.2.2.2.2.1 = 8 := rfl
theorem rX8_leg : mX8_leg.2.2.2.1 = (some .int) := rfl
theorem nX8_leg : mX8_leg.2.2.1 = 3 := rfl
def mX8_legCount : zMth := (yX8_legCount, cX8_legCount, 1, (some .int), 8, 0, 0)
theorem oX8_legCount : mX8_legCount.2.2.2.2.1 = 8 := rfl
theorem rX8_legCount : mX8_legCount.2.2.2.1 = (some .int) := rfl
theorem nX8_legCount : mX8_legCount.2.2.1 = 1 := rfl
def mX8_letter : zMth := (yX8_letter, cX8_letter, 3, (some .int), 8, 0, 0)
theorem oX8_letter : mX8_letter.2.2.2.2.1 = 8 := rfl
theorem rX8_letter : mX8_letter.2.2.2.1 = (some .int) := rfl
theorem nX8_letter : mX8_letter.2.2.1 = 3 := rfl
def mX8_minutes : zMth := (yX8_minutes, cX8_minutes, 2, (some .int), 8, 0, 0)
theorem oX8_minutes : mX8_minutes.2.2.2.2.1 = 8 := rfl
theorem rX8_minutes : mX8_minutes.2.2.2.1 = (some .int) := rfl
theorem nX8_minutes : mX8_minutes.2.2.1 = 2 := rfl
def mX8_offer : zMth := (yX8_offer, cX8_offer, 3, (some .int), 8, 0, 0)
theorem oX8_offer : mX8_offer.2.2.2.2.1 = 8 := rfl
theorem rX8_offer : mX8_offer.2.2.2.1 = (some .int) := rfl
theorem nX8_offer : mX8_offer.2.2.1 = 3 := rfl
def mX8_open : zMth := (yX8_open, cX8_open, 5, (some .int), 8, 0, 0)
theorem oX8_open : mX8_open.2.2.2.2.1 = 8 := rfl
theorem rX8_open : mX8_open.2.2.2.1 = (some .int) := rfl
theorem nX8_open : mX8_open.2.2.1 = 5 := rfl
def mX8_openCount : zMth := (yX8_openCount, cX8_openCount, 3, (some .int), 8, 0, 0)
theorem oX8_openCount : mX8_openCount.2.2.2.2.1 = 8 := rfl
theorem rX8_openCount : mX8_openCount.2.2.2.1 = (some .int) := rfl
theorem nX8_openCount : mX8_openCount.2.2.1 = 3 := rfl
def mX8_pair : zMth := (yX8_pair, cX8_pair, 1, (some .int), 8, 0, 0)
theorem oX8_pair : mX8_pair.2.2.2.2.1 = 8 := rfl
theorem rX8_pair : mX8_pair.2.2.2.1 = (some .int) := rfl
theorem nX8_pair : mX8_pair.2.2.1 = 1 := rfl
def mX8_pairOpenLegs : zMth := (yX8_pairOpenLegs, cX8_pairOpenLegs, 4, (some .int), 8, 0, 0)
theorem oX8_pairOpenLegs : mX8_pairOpenLegs.2.2.2.2.1 = 8 := rfl
theorem rX8_pairOpenLegs : mX8_pairOpenLegs.2.2.2.1 = (some .int) := rfl
theorem nX8_pairOpenLegs : mX8_pairOpenLegs.2.2.1 = 4 := rfl
def mX8_pairings : zMth := (yX8_pairings, cX8_pairings, 2, (some .int), 8, 0, 0)
theorem oX8_pairings : mX8_pairings.2.2.2.2.1 = 8 := rfl
theorem rX8_pairings : mX8_pairings.2.2.2.1 = (some .int) := rfl
theorem nX8_pairings : mX8_pairings.2.2.1 = 2 := rfl
def mX8_place : zMth := (yX8_place, cX8_place, 5, (some .int), 8, 0, 0)
theorem oX8_place : mX8_place.2.2.2.2.1 = 8 := rfl
theorem rX8_place : mX8_place.2.2.2.1 = (some .int) := rfl
theorem nX8_place : mX8_place.2.2.1 = 5 := rfl
def mX8_putCrew : zMth := (yX8_putCrew, cX8_putCrew, 3, (some .int), 8, 0, 0)
theorem oX8_putCrew : mX8_putCrew.2.2.2.2.1 = 8 := rfl
theorem rX8_putCrew : mX8_putCrew.2.2.2.1 = (some .int) := rfl
theorem nX8_putCrew : mX8_putCrew.2.2.1 = 3 := rfl
def mX8_putLeg : zMth := (yX8_putLeg, cX8_putLeg, 6, (some .int), 8, 0, 0)
theorem oX8_putLeg : mX8_putLeg.2.2.2.2.1 = 8 := rfl
theorem rX8_putLeg : mX8_putLeg.2.2.2.1 = (some .int) := rfl
theorem nX8_putLeg : mX8_putLeg.2.2.1 = 6 := rfl
def mX8_reason : zMth := (yX8_reason, cX8_reason, 4, (some .int), 8, 0, 0)
theorem oX8_reason : mX8_reason.2.2.2.2.1 = 8 := rfl
theorem rX8_reason : mX8_reason.2.2.2.1 = (some .int) := rfl
theorem nX8_reason : mX8_reason.2.2.1 = 4 := rfl
def mX8_reasonAgainst : zMth := (yX8_reasonAgainst, cX8_reasonAgainst, 4, (some .int), 8, 0, 0)
theorem oX8_reasonAgainst : mX8_reasonAgainst.2.2.2.2.1 = 8 := rfl
theorem rX8_reasonAgainst : mX8_reasonAgainst.2.2.2.1 = (some .int) := rfl
theorem nX8_reasonAgainst : mX8_reasonAgainst.2.2.1 = 4 := rfl
def mX8_repair : zMth := (yX8_repair, cX8_repair, 1, (some .int), 8, 0, 0)
theorem oX8_repair : mX8_repair.2.2.2.2.1 = 8 := rfl
theorem rX8_repair : mX8_repair.2.2.2.1 = (some .int) := rfl
theorem nX8_repair : mX8_repair.2.2.1 = 1 := rfl
def mX8_repairRows : zMth := (yX8_repairRows, cX8_repairRows, 5, (some .int), 8, 0, 0)
theorem oX8_repairRows : mX8_repairRows.2.2.2.2.1 = 8 := rfl
theorem rX8_repairRows : mX8_repairRows.2.2.2.1 = (some .int) := rfl
theorem nX8_repairRows : mX8_repairRows.2.2.1 = 5 := rfl
def mX8_repaired : zMth := (yX8_repaired, cX8_repaired, 3, (some .int), 8, 0, 0)
theorem oX8_repaired : mX8_repaired.2.2.2.2.1 = 8 := rfl
theorem rX8_repaired : mX8_repaired.2.2.2.1 = (some .int) := rfl
theorem nX8_repaired : mX8_repaired.2.2.1 = 3 := rfl
def mX8_reserve : zMth := (yX8_reserve, cX8_reserve, 3, (some .int), 8, 0, 0)
theorem oX8_reserve : mX8_reserve.2.2.2.2.1 = 8 := rfl
theorem rX8_reserve : mX8_reserve.2.2.2.1 = (some .int) := rfl
theorem nX8_reserve : mX8_reserve.2.2.1 = 3 := rfl
def mX8_reserveFor : zMth := (yX8_reserveFor, cX8_reserveFor, 6, (some .int), 8, 0, 0)
theorem oX8_reserveFor : mX8_reserveFor.2.2.2.2.1 = 8 := rfl
theorem rX8_reserveFor : mX8_reserveFor.2.2.2.1 = (some .int) := rfl
theorem nX8_reserveFor : mX8_reserveFor.2.2.1 = 6 := rfl
def mX8_restore : zMth := (yX8_restore, cX8_restore, 1, (some .int), 8, 0, 0)
theorem oX8_restore : mX8_restore.2.2.2.2.1 = 8 := rfl
theorem rX8_restore : mX8_restore.2.2.2.1 = (some .int) := rfl
theorem nX8_restore : mX8_restore.2.2.1 = 1 := rfl
def mX8_ride : zMth := (yX8_ride, cX8_ride, 3, (some .int), 8, 0, 0)
theorem oX8_ride : mX8_ride.2.2.2.2.1 = 8 := rfl
theorem rX8_ride : mX8_ride.2.2.2.1 = (some .int) := rfl
theorem nX8_ride : mX8_ride.2.2.1 = 3 := rfl
def mX8_rule : zMth := (yX8_rule, cX8_rule, 2, (some .int), 8, 0, 0)
theorem oX8_rule : mX8_rule.2.2.2.2.1 = 8 := rfl
theorem rX8_rule : mX8_rule.2.2.2.1 = (some .int) := rfl
theorem nX8_rule : mX8_rule.2.2.1 = 2 := rfl
def mX8_runCommand : zMth := (yX8_runCommand, cX8_runCommand, 5, (some .int), 8, 0, 0)
theorem oX8_runCommand : mX8_runCommand.2.2.2.2.1 = 8 := rfl
theorem rX8_runCommand : mX8_runCommand.2.2.2.1 = (some .int) := rfl
theorem nX8_runCommand : mX8_runCommand.2.2.1 = 5 := rfl
def mX8_save : zMth := (yX8_save, cX8_save, 1, (some .int), 8, 0, 0)
theorem oX8_save : mX8_save.2.2.2.2.1 = 8 := rfl
theorem rX8_save : mX8_save.2.2.2.1 = (some .int) := rfl
theorem nX8_save : mX8_save.2.2.1 = 1 := rfl
def mX8_setReserve : zMth := (yX8_setReserve, cX8_setReserve, 4, (some .int), 8, 0, 0)
theorem oX8_setReserve : mX8_setReserve.2.2.2.2.1 = 8 := rfl
theorem rX8_setReserve : mX8_setReserve.2.2.2.1 = (some .int) := rfl
theorem nX8_setReserve : mX8_setReserve.2.2.1 = 4 := rfl
def mX8_setRule : zMth := (yX8_setRule, cX8_setRule, 3, (some .int), 8, 0, 0)
theorem oX8_setRule : mX8_setRule.2.2.2.2.1 = 8 := rfl
theorem rX8_setRule : mX8_setRule.2.2.2.1 = (some .int) := rfl
theorem nX8_setRule : mX8_setRule.2.2.1 = 3 := rfl
def mX8_shift : zMth := (yX8_shift, cX8_shift, 7, (some .int), 8, 0, 0)
theorem oX8_shift : mX8_shift.2.2.2.2.1 = 8 := rfl
theorem rX8_shift : mX8_shift.2.2.2.1 = (some .int) := rfl
theorem nX8_shift : mX8_shift.2.2.1 = 7 := rfl
def mX8_strike : zMth := (yX8_strike, cX8_strike, 4, (some .int), 8, 0, 0)
theorem oX8_strike : mX8_strike.2.2.2.2.1 = 8 := rfl
theorem rX8_strike : mX8_strike.2.2.2.1 = (some .int) := rfl
theorem nX8_strike : mX8_strike.2.2.1 = 4 := rfl
def mX8_take : zMth := (yX8_take, cX8_take, 5, (some .int), 8, 0, 0)
theorem oX8_take : mX8_take.2.2.2.2.1 = 8 := rfl
theorem rX8_take : mX8_take.2.2.2.1 = (some .int) := rfl
theorem nX8_take : mX8_take.2.2.1 = 5 := rfl
def mX8_takeBest : zMth := (yX8_takeBest, cX8_takeBest, 2, (some .int), 8, 0, 0)
theorem oX8_takeBest : mX8_takeBest.2.2.2.2.1 = 8 := rfl
theorem rX8_takeBest : mX8_takeBest.2.2.2.1 = (some .int) := rfl
theorem nX8_takeBest : mX8_takeBest.2.2.1 = 2 := rfl
def mX8_takePairing : zMth := (yX8_takePairing, cX8_takePairing, 3, (some .int), 8, 0, 0)
theorem oX8_takePairing : mX8_takePairing.2.2.2.2.1 = 8 := rfl
theorem rX8_takePairing : mX8_takePairing.2.2.2.1 = (some .int) := rfl
theorem nX8_takePairing : mX8_takePairing.2.2.1 = 3 := rfl
def mX8_undo : zMth := (yX8_undo, cX8_undo, 1, (some .int), 8, 0, 0)
theorem oX8_undo : mX8_undo.2.2.2.2.1 = 8 := rfl
theorem rX8_undo : mX8_undo.2.2.2.1 = (some .int) := rfl
theorem nX8_undo : mX8_undo.2.2.1 = 1 := rfl
def mX8_violation : zMth := (yX8_violation, cX8_violation, 5, (some .int), 8, 0, 0)
theorem oX8_violation : mX8_violation.2.2.2.2.1 = 8 := rfl
theorem rX8_violation : mX8_violation.2.2.2.1 = (some .int) := rfl
theorem nX8_violation : mX8_violation.2.2.1 = 5 := rfl
def mX8_violationCount : zMth := (yX8_violationCount, cX8_violationCount, 2, (some .int), 8, 0, 0)
theorem oX8_violationCount : mX8_violationCount.2.2.2.2.1 = 8 := rfl
theorem rX8_violationCount : mX8_violationCount.2.2.2.1 = (some .int) := rfl
theorem nX8_violationCount : mX8_violationCount.2.2.1 = 2 := rfl
def mX8_within : zMth := (yX8_within, cX8_within, 4, (some .int), 8, 0, 0)
theorem oX8_within : mX8_within.2.2.2.2.1 = 8 := rfl
theorem rX8_within : mX8_within.2.2.2.1 = (some .int) := rfl
theorem nX8_within : mX8_within.2.2.1 = 4 := rfl
def mX9_addCrew : zMth := (yX9_addCrew, cX9_addCrew, 4, (some .int), 9, 0, 0)
theorem oX9_addCrew : mX9_addCrew.2.2.2.2.1 = 9 := rfl
theorem rX9_addCrew : mX9_addCrew.2.2.2.1 = (some .int) := rfl
theorem nX9_addCrew : mX9_addCrew.2.2.1 = 4 := rfl
def mX9_addLeg : zMth := (yX9_addLeg, cX9_addLeg, 7, (some .int), 9, 0, 0)
theorem oX9_addLeg : mX9_addLeg.2.2.2.2.1 = 9 := rfl
theorem rX9_addLeg : mX9_addLeg.2.2.2.1 = (some .int) := rfl
theorem nX9_addLeg : mX9_addLeg.2.2.1 = 7 := rfl
def mX9_assign : zMth := (yX9_assign, cX9_assign, 5, (some .int), 9, 0, 0)
theorem oX9_assign : mX9_assign.2.2.2.2.1 = 9 := rfl
theorem rX9_assign : mX9_assign.2.2.2.1 = (some .int) := rfl
theorem nX9_assign : mX9_assign.2.2.1 = 5 := rfl
def mX9_beginsDuty : zMth := (yX9_beginsDuty, cX9_beginsDuty, 2, (some .boolean), 9, 0, 0)
theorem oX9_beginsDuty : mX9_beginsDuty.2.2.2.2.1 = 9 := rfl
theorem rX9_beginsDuty : mX9_beginsDuty.2.2.2.1 = (some .boolean) := rfl
theorem nX9_beginsDuty : mX9_beginsDuty.2.2.1 = 2 := rfl
def mX9_bestLeg : zMth := (yX9_bestLeg, cX9_bestLeg, 3, (some .int), 9, 0, 0)
theorem oX9_bestLeg : mX9_bestLeg.2.2.2.2.1 = 9 := rfl
theorem rX9_bestLeg : mX9_bestLeg.2.2.2.1 = (some .int) := rfl
theorem nX9_bestLeg : mX9_bestLeg.2.2.1 = 3 := rfl
def mX9_bestMinutes : zMth := (yX9_bestMinutes, cX9_bestMinutes, 2, (some .int), 9, 0, 0)
theorem oX9_bestMinutes : mX9_bestMinutes.2.2.2.2.1 = 9 := rfl
theorem rX9_bestMinutes : mX9_bestMinutes.2.2.2.1 = (some .int) := rfl
theorem nX9_bestMinutes : mX9_bestMinutes.2.2.1 = 2 := rfl
def mX9_callFor : zMth := (yX9_callFor, cX9_callFor, 5, none, 9, 0, 0)
theorem oX9_callFor : mX9_callFor.2.2.2.2.1 = 9 := rfl
theorem rX9_callFor : mX9_callFor.2.2.2.1 = none := rfl
theorem nX9_callFor : mX9_callFor.2.2.1 = 5 := rfl
def mX9_called : zMth := (yX9_called, cX9_called, 2, (some .int), 9, 0, 0)
theorem oX9_called : mX9_called.2.2.2.2.1 = 9 := rfl
theorem rX9_called : mX9_called.2.2.2.1 = (some .int) := rfl
theorem nX9_called : mX9_called.2.2.1 = 2 := rfl
def mX9_calledFor : zMth := (yX9_calledFor, cX9_calledFor, 8, (some .int), 9, 0, 0)
theorem oX9_calledFor : mX9_calledFor.2.2.2.2.1 = 9 := rfl
theorem rX9_calledFor : mX9_calledFor.2.2.2.1 = (some .int) := rfl
theorem nX9_calledFor : mX9_calledFor.2.2.1 = 8 := rfl
def mX9_cancel : zMth := (yX9_cancel, cX9_cancel, 5, (some .int), 9, 0, 0)
theorem oX9_cancel : mX9_cancel.2.2.2.2.1 = 9 := rfl
theorem rX9_cancel : mX9_cancel.2.2.2.1 = (some .int) := rfl
theorem nX9_cancel : mX9_cancel.2.2.1 = 5 := rfl
def mX9_change : zMth := (yX9_change, cX9_change, 1, none, 9, 0, 0)
theorem oX9_change : mX9_change.2.2.2.2.1 = 9 := rfl
theorem rX9_change : mX9_change.2.2.2.1 = none := rfl
theorem nX9_change : mX9_change.2.2.1 = 1 := rfl
def mX9_command : zMth := (yX9_command, cX9_command, 6, (some .int), 9, 1, 10)
theorem oX9_command : mX9_command.2.2.2.2.1 = 9 := rfl
theorem rX9_command : mX9_command.2.2.2.1 = (some .int) := rfl
theorem nX9_command : mX9_command.2.2.1 = 6 := rfl
def mX9_consider : zMth := (yX9_consider, cX9_consider, 6, none, 9, 0, 0)
theorem oX9_consider : mX9_consider.2.2.2.2.1 = 9 := rfl
theorem rX9_consider : mX9_consider.2.2.2.1 = none := rfl
theorem nX9_consider : mX9_consider.2.2.1 = 6 := rfl
def mX9_cost : zMth := (yX9_cost, cX9_cost, 5, (some .int), 9, 0, 0)
theorem oX9_cost : mX9_cost.2.2.2.2.1 = 9 := rfl
theorem rX9_cost : mX9_cost.2.2.2.1 = (some .int) := rfl
theorem nX9_cost : mX9_cost.2.2.1 = 5 := rfl
def mX9_costOf : zMth := (yX9_costOf, cX9_costOf, 6, (some .int), 9, 0, 0)
theorem oX9_costOf : mX9_costOf.2.2.2.2.1 = 9 := rfl
theorem rX9_costOf : mX9_costOf.2.2.2.1 = (some .int) := rfl
theorem nX9_costOf : mX9_costOf.2.2.1 = 6 := rfl
def mX9_crewAt : zMth := (yX9_crewAt, cX9_crewAt, 2, (some .int), 9, 0, 0)
theorem oX9_crewAt : mX9_crewAt.2.2.2.2.1 = 9 := rfl
theorem rX9_crewAt : mX9_crewAt.2.2.2.1 = (some .int) := rfl
theorem nX9_crewAt : mX9_crewAt.2.2.1 = 2 := rfl
def mX9_crewCount : zMth := (yX9_crewCount, cX9_crewCount, 1, (some .int), 9, 0, 0)
theorem oX9_crewCount : mX9_crewCount.2.2.2.2.1 = 9 := rfl
theorem rX9_crewCount : mX9_crewCount.2.2.2.1 = (some .int) := rfl
theorem nX9_crewCount : mX9_crewCount.2.2.1 = 1 := rfl
def mX9_delay : zMth := (yX9_delay, cX9_delay, 6, (some .int), 9, 0, 0)
theorem oX9_delay : mX9_delay.2.2.2.2.1 = 9 := rfl
theorem rX9_delay : mX9_delay.2.2.2.1 = (some .int) := rfl
theorem nX9_delay : mX9_delay.2.2.1 = 6 := rfl
def mX9_drop : zMth := (yX9_drop, cX9_drop, 4, (some .int), 9, 0, 0)
theorem oX9_drop : mX9_drop.2.2.2.2.1 = 9 := rfl
theorem rX9_drop : mX9_drop.2.2.2.1 = (some .int) := rfl
theorem nX9_drop : mX9_drop.2.2.1 = 4 := rfl
def mX9_duty : zMth := (yX9_duty, cX9_duty, 6, (some .int), 9, 0, 0)
theorem oX9_duty : mX9_duty.2.2.2.2.1 = 9 := rfl
theorem rX9_duty : mX9_duty.2.2.2.1 = (some .int) := rfl
theorem nX9_duty : mX9_duty.2.2.1 = 6 := rfl
def mX9_dutyCount : zMth := (yX9_dutyCount, cX9_dutyCount, 2, (some .int), 9, 0, 0)
theorem oX9_dutyCount : mX9_dutyCount.2.2.2.2.1 = 9 := rfl
theorem rX9_dutyCount : mX9_dutyCount.2.2.2.1 = (some .int) := rfl
theorem nX9_dutyCount : mX9_dutyCount.2.2.1 = 2 := rfl
def mX9_dutyEnd : zMth := (yX9_dutyEnd, cX9_dutyEnd, 3, (some .int), 9, 0, 0)
theorem oX9_dutyEnd : mX9_dutyEnd.2.2.2.2.1 = 9 := rfl
theorem rX9_dutyEnd : mX9_dutyEnd.2.2.2.1 = (some .int) := rfl
theorem nX9_dutyEnd : mX9_dutyEnd.2.2.1 = 3 := rfl
def mX9_dutyMinutes : zMth := (yX9_dutyMinutes, cX9_dutyMinutes, 2, (some .int), 9, 0, 0)
theorem oX9_dutyMinutes : mX9_dutyMinutes.2.2.2.2.1 = 9 := rfl
theorem rX9_dutyMinutes : mX9_dutyMinutes.2.2.2.1 = (some .int) := rfl
theorem nX9_dutyMinutes : mX9_dutyMinutes.2.2.1 = 2 := rfl
def mX9_dutyOf : zMth := (yX9_dutyOf, cX9_dutyOf, 4, (some .int), 9, 0, 0)
theorem oX9_dutyOf : mX9_dutyOf.2.2.2.2.1 = 9 := rfl
theorem rX9_dutyOf : mX9_dutyOf.2.2.2.1 = (some .int) := rfl
theorem nX9_dutyOf : mX9_dutyOf.2.2.1 = 4 := rfl
def mX9_enter : zMth := (yX9_enter, cX9_enter, 5, (some .int), 9, 0, 0)
theorem oX9_enter : mX9_enter.2.2.2.2.1 = 9 := rfl
theorem rX9_enter : mX9_enter.2.2.2.1 = (some .int) := rfl
theorem nX9_enter : mX9_enter.2.2.1 = 5 := rfl
def mX9_execute : zMth := (yX9_execute, cX9_execute, 4, (some .int), 9, 200, 2000)
theorem oX9_execute : mX9_execute.2.2.2.2.1 = 9 := rfl
theorem rX9_execute : mX9_execute.2.2.2.1 = (some .int) := rfl
theorem nX9_execute : mX9_execute.2.2.1 = 4 := rfl
def mX9_feed : zMth := (yX9_feed, cX9_feed, 2, (some .int), 9, 0, 0)
theorem oX9_feed : mX9_feed.2.2.2.2.1 = 9 := rfl
theorem rX9_feed : mX9_feed.2.2.2.1 = (some .int) := rfl
theorem nX9_feed : mX9_feed.2.2.1 = 2 := rfl
def mX9_findBest : zMth := (yX9_findBest, cX9_findBest, 2, none, 9, 0, 0)
theorem oX9_findBest : mX9_findBest.2.2.2.2.1 = 9 := rfl
theorem rX9_findBest : mX9_findBest.2.2.2.1 = none := rfl
theorem nX9_findBest : mX9_findBest.2.2.1 = 2 := rfl
def mX9_findOffer : zMth := (yX9_findOffer, cX9_findOffer, 4, none, 9, 0, 0)
theorem oX9_findOffer : mX9_findOffer.2.2.2.2.1 = 9 := rfl
theorem rX9_findOffer : mX9_findOffer.2.2.2.1 = none := rfl
theorem nX9_findOffer : mX9_findOffer.2.2.1 = 4 := rfl
def mX9_findOpen : zMth := (yX9_findOpen, cX9_findOpen, 3, none, 9, 0, 0)
theorem oX9_findOpen : mX9_findOpen.2.2.2.2.1 = 9 := rfl
theorem rX9_findOpen : mX9_findOpen.2.2.2.1 = none := rfl
theorem nX9_findOpen : mX9_findOpen.2.2.1 = 3 := rfl
def mX9_flierOf : zMth := (yX9_flierOf, cX9_flierOf, 4, (some .int), 9, 0, 0)
theorem oX9_flierOf : mX9_flierOf.2.2.2.2.1 = 9 := rfl
theorem rX9_flierOf : mX9_flierOf.2.2.2.1 = (some .int) := rfl
theorem nX9_flierOf : mX9_flierOf.2.2.1 = 4 := rfl
def mX9_flownFrom : zMth := (yX9_flownFrom, cX9_flownFrom, 5, (some .int), 9, 0, 0)
theorem oX9_flownFrom : mX9_flownFrom.2.2.2.2.1 = 9 := rfl
theorem rX9_flownFrom : mX9_flownFrom.2.2.2.1 = (some .int) := rfl
theorem nX9_flownFrom : mX9_flownFrom.2.2.1 = 5 := rfl
def mX9_flownWithin : zMth := (yX9_flownWithin, cX9_flownWithin, 7, (some .int), 9, 0, 0)
theorem oX9_flownWithin : mX9_flownWithin.2.2.2.2.1 = 9 := rfl
theorem rX9_flownWithin : mX9_flownWithin.2.2.2.1 = (some .int) := rfl
theorem nX9_flownWithin : mX9_flownWithin.2.2.1 = 7 := rfl
def mX9_fly : zMth := (yX9_fly, cX9_fly, 3, (some .int), 9, 0, 0)
theorem oX9_fly : mX9_fly.2.2.2.2.1 = 9 := rfl
theorem rX9_fly : mX9_fly.2.2.2.1 = (some .int) := rfl
theorem nX9_fly : mX9_fly.2.2.1 = 3 := rfl
def mX9_gapBefore : zMth := (yX9_gapBefore, cX9_gapBefore, 2, (some .int), 9, 0, 0)
theorem oX9_gapBefore : mX9_gapBefore.2.2.2.2.1 = 9 := rfl
theorem rX9_gapBefore : mX9_gapBefore.2.2.2.1 = (some .int) := rfl
theorem nX9_gapBefore : mX9_gapBefore.2.2.1 = 2 := rfl
def mX9_give : zMth := (yX9_give, cX9_give, 2, none, 9, 0, 0)
theorem oX9_give : mX9_give.2.2.2.2.1 = 9 := rfl
theorem rX9_give : mX9_give.2.2.2.1 = none := rfl
theorem nX9_give : mX9_give.2.2.1 = 2 := rfl
def mX9_here : zMth := (yX9_here, cX9_here, 1, (some .int), 9, 0, 0)
theorem oX9_here : mX9_here.2.2.2.2.1 = 9 := rfl
theorem rX9_here : mX9_here.2.2.2.1 = (some .int) := rfl
theorem nX9_here : mX9_here.2.2.1 = 1 := rfl
def mX9_hinders : zMth := (yX9_hinders, cX9_hinders, 5, (some .int), 9, 0, 0)
theorem oX9_hinders : mX9_hinders.2.2.2.2.1 = 9 := rfl
theorem rX9_hinders : mX9_hinders.2.2.2.1 = (some .int) := rfl
theorem nX9_hinders : mX9_hinders.2.2.1 = 5 := rfl
def mX9_hinders_ : zMth := (yX9_hinders_, cX9_hinders_, 4, (some .int), 9, 0, 0)
theorem oX9_hinders_ : mX9_hinders_.2.2.2.2.1 = 9 := rfl
theorem rX9_hinders_ : mX9_hinders_.2.2.2.1 = (some .int) := rfl
theorem nX9_hinders_ : mX9_hinders_.2.2.1 = 4 := rfl
def mX9_home : zMth := (yX9_home, cX9_home, 2, (some .int), 9, 0, 0)
theorem oX9_home : mX9_home.2.2.2.2.1 = 9 := rfl
theorem rX9_home : mX9_home.2.2.2.1 = (some .int) := rfl
theorem nX9_home : mX9_home.2.2.1 = 2 := rfl
def mX9_in : zMth := (yX9_in, cX9_in, 3, (some .boolean), 9, 0, 0)
theorem oX9_in : mX9_in.2.2.2.2.1 = 9 := rfl
theorem rX9_in : mX9_in.2.2.2.1 = (some .boolean) := rfl
theorem nX9_in : mX9_in.2.2.1 = 3 := rfl
def mX9_init : zMth := (yX9_init, cX9_init, 1, none, 9, 12, 20000)
theorem oX9_init : mX9_init.2.2.2.2.1 = 9 := rfl
theorem rX9_init : mX9_init.2.2.2.1 = none := rfl
theorem nX9_init : mX9_init.2.2.1 = 1 := rfl
def mX9_isCrew : zMth := (yX9_isCrew, cX9_isCrew, 2, (some .boolean), 9, 0, 0)
theorem oX9_isCrew : mX9_isCrew.2.2.2.2.1 = 9 := rfl
theorem rX9_isCrew : mX9_isCrew.2.2.2.1 = (some .boolean) := rfl
theorem nX9_isCrew : mX9_isCrew.2.2.1 = 2 := rfl
def mX9_isFlown : zMth := (yX9_isFlown, cX9_isFlown, 2, (some .boolean), 9, 0, 0)
theorem oX9_isFlown : mX9_isFlown.2.2.2.2.1 = 9 := rfl
theorem rX9_isFlown : mX9_isFlown.2.2.2.1 = (some .boolean) := rfl
theorem nX9_isFlown : mX9_isFlown.2.2.1 = 2 := rfl
def mX9_isHome : zMth := (yX9_isHome, cX9_isHome, 1, (some .boolean), 9, 0, 0)
theorem oX9_isHome : mX9_isHome.2.2.2.2.1 = 9 := rfl
theorem rX9_isHome : mX9_isHome.2.2.2.1 = (some .boolean) := rfl
theorem nX9_isHome : mX9_isHome.2.2.1 = 1 := rfl
def mX9_isLeg : zMth := (yX9_isLeg, cX9_isLeg, 2, (some .boolean), 9, 0, 0)
theorem oX9_isLeg : mX9_isLeg.2.2.2.2.1 = 9 := rfl
theorem rX9_isLeg : mX9_isLeg.2.2.2.1 = (some .boolean) := rfl
theorem nX9_isLeg : mX9_isLeg.2.2.1 = 2 := rfl
def mX9_isOpen : zMth := (yX9_isOpen, cX9_isOpen, 2, (some .boolean), 9, 0, 0)
theorem oX9_isOpen : mX9_isOpen.2.2.2.2.1 = 9 := rfl
theorem rX9_isOpen : mX9_isOpen.2.2.2.1 = (some .boolean) := rfl
theorem nX9_isOpen : mX9_isOpen.2.2.1 = 2 := rfl
def mX9_isReserve : zMth := (yX9_isReserve, cX9_isReserve, 2, (some .boolean), 9, 0, 0)
theorem oX9_isReserve : mX9_isReserve.2.2.2.2.1 = 9 := rfl
theorem rX9_isReserve : mX9_isReserve.2.2.2.1 = (some .boolean) := rfl
theorem nX9_isReserve : mX9_isReserve.2.2.1 = 2 := rfl
def mX9_isThere : zMth := (yX9_isThere, cX9_isThere, 7, (some .boolean), 9, 0, 0)
theorem oX9_isThere : mX9_isThere.2.2.2.2.1 = 9 := rfl
theorem rX9_isThere : mX9_isThere.2.2.2.1 = (some .boolean) := rfl
theorem nX9_isThere : mX9_isThere.2.2.1 = 7 := rfl
def mX9_isWay : zMth := (yX9_isWay, cX9_isWay, 5, (some .boolean), 9, 0, 0)
theorem oX9_isWay : mX9_isWay.2.2.2.2.1 = 9 := rfl
theorem rX9_isWay : mX9_isWay.2.2.2.1 = (some .boolean) := rfl
theorem nX9_isWay : mX9_isWay.2.2.1 = 5 := rfl
def mX9_isWord : zMth := (yX9_isWord, cX9_isWord, 5, (some .boolean), 9, 0, 0)
theorem oX9_isWord : mX9_isWord.2.2.2.2.1 = 9 := rfl
theorem rX9_isWord : mX9_isWord.2.2.2.1 = (some .boolean) := rfl
theorem nX9_isWord : mX9_isWord.2.2.1 = 5 := rfl
def mX9_item : zMth := (yX9_item, cX9_item, 4, (some .int), 9, 0, 0)
theorem oX9_item : mX9_item.2.2.2.2.1 = 9 := rfl
theorem rX9_item : mX9_item.2.2.2.1 = (some .int) := rfl
theorem nX9_item : mX9_item.2.2.1 = 4 := rfl
def mX9_itemCount : zMth := (yX9_itemCount, cX9_itemCount, 2, (some .int), 9, 0, 0)
theorem oX9_itemCount : mX9_itemCount.2.2.2.2.1 = 9 := rfl
theorem rX9_itemCount : mX9_itemCount.2.2.2.1 = (some .int) := rfl
theorem nX9_itemCount : mX9_itemCount.2.2.1 = 2 := rfl
def mX9_leg : zMth := (yX9_leg, cX9_leg, 3, (some .int), 9, 0, 0)
theorem oX9_leg : mX9_leg.2.2.2.2.1 = 9 := rfl
theorem rX9_leg : mX9_leg.2.2.2.1 = (some .int) := rfl
theorem nX9_leg : mX9_leg.2.2.1 = 3 := rfl
def mX9_legAt : zMth := (yX9_legAt, cX9_legAt, 2, (some .int), 9, 0, 0)
theorem oX9_legAt : mX9_legAt.2.2.2.2.1 = 9 := rfl
theorem rX9_legAt : mX9_legAt.2.2.2.1 = (some .int) := rfl
theorem nX9_legAt : mX9_legAt.2.2.1 = 2 := rfl
def mX9_legCount : zMth := (yX9_legCount, cX9_legCount, 1, (some .int), 9, 0, 0)
theorem oX9_legCount : mX9_legCount.2.2.2.2.1 = 9 := rfl
theorem rX9_legCount : mX9_legCount.2.2.2.1 = (some .int) := rfl
theorem nX9_legCount : mX9_legCount.2.2.1 = 1 := rfl
def mX9_lengthOf : zMth := (yX9_lengthOf, cX9_lengthOf, 2, (some .int), 9, 0, 0)
theorem oX9_lengthOf : mX9_lengthOf.2.2.2.2.1 = 9 := rfl
theorem rX9_lengthOf : mX9_lengthOf.2.2.2.1 = (some .int) := rfl
theorem nX9_lengthOf : mX9_lengthOf.2.2.1 = 2 := rfl
def mX9_letter : zMth := (yX9_letter, cX9_letter, 4, (some .int), 9, 0, 0)
theorem oX9_letter : mX9_letter.2.2.2.2.1 = 9 := rfl
theorem rX9_letter : mX9_letter.2.2.2.1 = (some .int) := rfl
theorem nX9_letter : mX9_letter.2.2.1 = 4 := rfl
def mX9_minutes : zMth := (yX9_minutes, cX9_minutes, 2, (some .int), 9, 0, 0)
theorem oX9_minutes : mX9_minutes.2.2.2.2.1 = 9 := rfl
theorem rX9_minutes : mX9_minutes.2.2.2.1 = (some .int) := rfl
theorem nX9_minutes : mX9_minutes.2.2.1 = 2 := rfl
def mX9_minutesOf : zMth := (yX9_minutesOf, cX9_minutesOf, 2, (some .int), 9, 0, 0)
theorem oX9_minutesOf : mX9_minutesOf.2.2.2.2.1 = 9 := rfl
theorem rX9_minutesOf : mX9_minutesOf.2.2.2.1 = (some .int) := rfl
theorem nX9_minutesOf : mX9_minutesOf.2.2.1 = 2 := rfl
def mX9_of : zMth := (yX9_of, cX9_of, 3, (some .int), 9, 0, 0)
theorem oX9_of : mX9_of.2.2.2.2.1 = 9 := rfl
theorem rX9_of : mX9_of.2.2.2.1 = (some .int) := rfl
theorem nX9_of : mX9_of.2.2.1 = 3 := rfl
def mX9_ofCrew : zMth := (yX9_ofCrew, cX9_ofCrew, 3, (some .int), 9, 0, 0)
theorem oX9_ofCrew : mX9_ofCrew.2.2.2.2.1 = 9 := rfl
theorem rX9_ofCrew : mX9_ofCrew.2.2.2.1 = (some .int) := rfl
theorem nX9_ofCrew : mX9_ofCrew.2.2.1 = 3 := rfl
def mX9_offer : zMth := (yX9_offer, cX9_offer, 3, (some .int), 9, 0, 0)
theorem oX9_offer : mX9_offer.2.2.2.2.1 = 9 := rfl
theorem rX9_offer : mX9_offer.2.2.2.1 = (some .int) := rfl
theorem nX9_offer : mX9_offer.2.2.1 = 3 := rfl
def mX9_open : zMth := (yX9_open, cX9_open, 2, (some .int), 9, 0, 0)
theorem oX9_open : mX9_open.2.2.2.2.1 = 9 := rfl
theorem rX9_open : mX9_open.2.2.2.1 = (some .int) := rfl
theorem nX9_open : mX9_open.2.2.1 = 2 := rfl
def mX9_openCount : zMth := (yX9_openCount, cX9_openCount, 1, (some .int), 9, 0, 0)
theorem oX9_openCount : mX9_openCount.2.2.2.2.1 = 9 := rfl
theorem rX9_openCount : mX9_openCount.2.2.2.1 = (some .int) := rfl
theorem nX9_openCount : mX9_openCount.2.2.1 = 1 := rfl
def mX9_pair : zMth := (yX9_pair, cX9_pair, 5, (some .int), 9, 0, 0)
theorem oX9_pair : mX9_pair.2.2.2.2.1 = 9 := rfl
theorem rX9_pair : mX9_pair.2.2.2.1 = (some .int) := rfl
theorem nX9_pair : mX9_pair.2.2.1 = 5 := rfl
def mX9_pairings : zMth := (yX9_pairings, cX9_pairings, 4, (some .int), 9, 0, 0)
theorem oX9_pairings : mX9_pairings.2.2.2.2.1 = 9 := rfl
theorem rX9_pairings : mX9_pairings.2.2.2.1 = (some .int) := rfl
theorem nX9_pairings : mX9_pairings.2.2.1 = 4 := rfl
def mX9_perform : zMth := (yX9_perform, cX9_perform, 4, (some .int), 9, 0, 0)
theorem oX9_perform : mX9_perform.2.2.2.2.1 = 9 := rfl
theorem rX9_perform : mX9_perform.2.2.2.1 = (some .int) := rfl
theorem nX9_perform : mX9_perform.2.2.1 = 4 := rfl
def mX9_place : zMth := (yX9_place, cX9_place, 5, (some .int), 9, 0, 0)
theorem oX9_place : mX9_place.2.2.2.2.1 = 9 := rfl
theorem rX9_place : mX9_place.2.2.2.1 = (some .int) := rfl
theorem nX9_place : mX9_place.2.2.1 = 5 := rfl
def mX9_placeIn : zMth := (yX9_placeIn, cX9_placeIn, 4, (some .int), 9, 0, 0)
theorem oX9_placeIn : mX9_placeIn.2.2.2.2.1 = 9 := rfl
theorem rX9_placeIn : mX9_placeIn.2.2.2.1 = (some .int) := rfl
theorem nX9_placeIn : mX9_placeIn.2.2.1 = 4 := rfl
def mX9_push : zMth := (yX9_push, cX9_push, 2, none, 9, 0, 0)
theorem oX9_push : mX9_push.2.2.2.2.1 = 9 := rfl
theorem rX9_push : mX9_push.2.2.2.1 = none := rfl
theorem nX9_push : mX9_push.2.2.1 = 2 := rfl
def mX9_put : zMth := (yX9_put, cX9_put, 4, (some .int), 9, 0, 0)
theorem oX9_put : mX9_put.2.2.2.2.1 = 9 := rfl
theorem rX9_put : mX9_put.2.2.2.1 = (some .int) := rfl
theorem nX9_put : mX9_put.2.2.1 = 4 := rfl
def mX9_readNumber : zMth := (yX9_readNumber, cX9_readNumber, 3, none, 9, 0, 0)
theorem oX9_readNumber : mX9_readNumber.2.2.2.2.1 = 9 := rfl
theorem rX9_readNumber : mX9_readNumber.2.2.2.1 = none := rfl
theorem nX9_readNumber : mX9_readNumber.2.2.1 = 3 := rfl
def mX9_reason : zMth := (yX9_reason, cX9_reason, 4, (some .int), 9, 0, 0)
theorem oX9_reason : mX9_reason.2.2.2.2.1 = 9 := rfl
theorem rX9_reason : mX9_reason.2.2.2.1 = (some .int) := rfl
theorem nX9_reason : mX9_reason.2.2.1 = 4 := rfl
def mX9_reorder : zMth := (yX9_reorder, cX9_reorder, 6, none, 9, 0, 0)
theorem oX9_reorder : mX9_reorder.2.2.2.2.1 = 9 := rfl
theorem rX9_reorder : mX9_reorder.2.2.2.1 = none := rfl
theorem nX9_reorder : mX9_reorder.2.2.1 = 6 := rfl
def mX9_repair : zMth := (yX9_repair, cX9_repair, 4, (some .int), 9, 0, 0)
theorem oX9_repair : mX9_repair.2.2.2.2.1 = 9 := rfl
theorem rX9_repair : mX9_repair.2.2.2.1 = (some .int) := rfl
theorem nX9_repair : mX9_repair.2.2.1 = 4 := rfl
def mX9_repaired : zMth := (yX9_repaired, cX9_repaired, 3, (some .int), 9, 0, 0)
theorem oX9_repaired : mX9_repaired.2.2.2.2.1 = 9 := rfl
theorem rX9_repaired : mX9_repaired.2.2.2.1 = (some .int) := rfl
theorem nX9_repaired : mX9_repaired.2.2.1 = 3 := rfl
def mX9_reserve : zMth := (yX9_reserve, cX9_reserve, 3, (some .int), 9, 0, 0)
theorem oX9_reserve : mX9_reserve.2.2.2.2.1 = 9 := rfl
theorem rX9_reserve : mX9_reserve.2.2.2.1 = (some .int) := rfl
theorem nX9_reserve : mX9_reserve.2.2.1 = 3 := rfl
def mX9_restore : zMth := (yX9_restore, cX9_restore, 1, (some .int), 9, 0, 0)
theorem oX9_restore : mX9_restore.2.2.2.2.1 = 9 := rfl
theorem rX9_restore : mX9_restore.2.2.2.1 = (some .int) := rfl
theorem nX9_restore : mX9_restore.2.2.1 = 1 := rfl
def mX9_ride : zMth := (yX9_ride, cX9_ride, 3, (some .int), 9, 0, 0)
theorem oX9_ride : mX9_ride.2.2.2.2.1 = 9 := rfl
theorem rX9_ride : mX9_ride.2.2.2.1 = (some .int) := rfl
theorem nX9_ride : mX9_ride.2.2.1 = 3 := rfl
def mX9_rule : zMth := (yX9_rule, cX9_rule, 2, (some .int), 9, 0, 0)
theorem oX9_rule : mX9_rule.2.2.2.2.1 = 9 := rfl
theorem rX9_rule : mX9_rule.2.2.2.1 = (some .int) := rfl
theorem nX9_rule : mX9_rule.2.2.1 = 2 := rfl
def mX9_save : zMth := (yX9_save, cX9_save, 1, (some .int), 9, 0, 0)
theorem oX9_save : mX9_save.2.2.2.2.1 = 9 := rfl
theorem rX9_save : mX9_save.2.2.2.1 = (some .int) := rfl
theorem nX9_save : mX9_save.2.2.1 = 1 := rfl
def mX9_search : zMth := (yX9_search, cX9_search, 6, none, 9, 0, 0)
theorem oX9_search : mX9_search.2.2.2.2.1 = 9 := rfl
theorem rX9_search : mX9_search.2.2.2.1 = none := rfl
theorem nX9_search : mX9_search.2.2.1 = 6 := rfl
def mX9_setReserve : zMth := (yX9_setReserve, cX9_setReserve, 5, (some .int), 9, 0, 0)
theorem oX9_setReserve : mX9_setReserve.2.2.2.2.1 = 9 := rfl
theorem rX9_setReserve : mX9_setReserve.2.2.2.1 = (some .int) := rfl
theorem nX9_setReserve : mX9_setReserve.2.2.1 = 5 := rfl
def mX9_setRule : zMth := (yX9_setRule, cX9_setRule, 4, (some .int), 9, 0, 0)
theorem oX9_setRule : mX9_setRule.2.2.2.2.1 = 9 := rfl
theorem rX9_setRule : mX9_setRule.2.2.2.1 = (some .int) := rfl
theorem nX9_setRule : mX9_setRule.2.2.1 = 4 := rfl
def mX9_take : zMth := (yX9_take, cX9_take, 2, none, 9, 0, 0)
theorem oX9_take : mX9_take.2.2.2.2.1 = 9 := rfl
theorem rX9_take : mX9_take.2.2.2.1 = none := rfl
theorem nX9_take : mX9_take.2.2.1 = 2 := rfl
def mX9_takeBest : zMth := (yX9_takeBest, cX9_takeBest, 4, (some .int), 9, 0, 0)
theorem oX9_takeBest : mX9_takeBest.2.2.2.2.1 = 9 := rfl
theorem rX9_takeBest : mX9_takeBest.2.2.2.1 = (some .int) := rfl
theorem nX9_takeBest : mX9_takeBest.2.2.1 = 4 := rfl
def mX9_takeOut : zMth := (yX9_takeOut, cX9_takeOut, 3, none, 9, 0, 0)
theorem oX9_takeOut : mX9_takeOut.2.2.2.2.1 = 9 := rfl
theorem rX9_takeOut : mX9_takeOut.2.2.2.1 = none := rfl
theorem nX9_takeOut : mX9_takeOut.2.2.1 = 3 := rfl
def mX9_undo : zMth := (yX9_undo, cX9_undo, 1, (some .int), 9, 0, 0)
theorem oX9_undo : mX9_undo.2.2.2.2.1 = 9 := rfl
theorem rX9_undo : mX9_undo.2.2.2.1 = (some .int) := rfl
theorem nX9_undo : mX9_undo.2.2.1 = 1 := rfl
def mX9_violates : zMth := (yX9_violates, cX9_violates, 3, (some .boolean), 9, 0, 0)
theorem oX9_violates : mX9_violates.2.2.2.2.1 = 9 := rfl
theorem rX9_violates : mX9_violates.2.2.2.1 = (some .boolean) := rfl
theorem nX9_violates : mX9_violates.2.2.1 = 3 := rfl
def mX9_violation : zMth := (yX9_violation, cX9_violation, 5, (some .int), 9, 0, 0)
theorem oX9_violation : mX9_violation.2.2.2.2.1 = 9 := rfl
theorem rX9_violation : mX9_violation.2.2.2.1 = (some .int) := rfl
theorem nX9_violation : mX9_violation.2.2.1 = 5 := rfl
def mX9_violationAt : zMth := (yX9_violationAt, cX9_violationAt, 5, (some .int), 9, 0, 0)
theorem oX9_violationAt : mX9_violationAt.2.2.2.2.1 = 9 := rfl
theorem rX9_violationAt : mX9_violationAt.2.2.2.1 = (some .int) := rfl
theorem nX9_violationAt : mX9_violationAt.2.2.1 = 5 := rfl
def mX9_violationCount : zMth := (yX9_violationCount, cX9_violationCount, 2, (some .int), 9, 0, 0)
theorem oX9_violationCount : mX9_violationCount.2.2.2.2.1 = 9 := rfl
theorem rX9_violationCount : mX9_violationCount.2.2.2.1 = (some .int) := rfl
theorem nX9_violationCount : mX9_violationCount.2.2.1 = 2 := rfl
def mX9_violations : zMth := (yX9_violations, cX9_violations, 2, (some .int), 9, 0, 0)
theorem oX9_violations : mX9_violations.2.2.2.2.1 = 9 := rfl
theorem rX9_violations : mX9_violations.2.2.2.1 = (some .int) := rfl
theorem nX9_violations : mX9_violations.2.2.1 = 2 := rfl
def mX9_within : zMth := (yX9_within, cX9_within, 4, (some .int), 9, 0, 0)
theorem oX9_within : mX9_within.2.2.2.2.1 = 9 := rfl
theorem rX9_within : mX9_within.2.2.2.1 = (some .int) := rfl
theorem nX9_within : mX9_within.2.2.1 = 4 := rfl
def mX9_wordOf : zMth := (yX9_wordOf, cX9_wordOf, 5, (some .int), 9, 1, 10)
theorem oX9_wordOf : mX9_wordOf.2.2.2.2.1 = 9 := rfl
theorem rX9_wordOf : mX9_wordOf.2.2.2.1 = (some .int) := rfl
theorem nX9_wordOf : mX9_wordOf.2.2.1 = 5 := rfl
def mX9_write : zMth := (yX9_write, cX9_write, 2, none, 9, 0, 0)
theorem oX9_write : mX9_write.2.2.2.2.1 = 9 := rfl
theorem rX9_write : mX9_write.2.2.2.1 = none := rfl
theorem nX9_write : mX9_write.2.2.1 = 2 := rfl
def mX9_writeItem : zMth := (yX9_writeItem, cX9_writeItem, 5, none, 9, 0, 0)
theorem oX9_writeItem : mX9_writeItem.2.2.2.2.1 = 9 := rfl
theorem rX9_writeItem : mX9_writeItem.2.2.2.1 = none := rfl
theorem nX9_writeItem : mX9_writeItem.2.2.1 = 5 := rfl
def mX9_writeTime : zMth := (yX9_writeTime, cX9_writeTime, 2, none, 9, 0, 0)
theorem oX9_writeTime : mX9_writeTime.2.2.2.2.1 = 9 := rfl
theorem rX9_writeTime : mX9_writeTime.2.2.2.1 = none := rfl
theorem nX9_writeTime : mX9_writeTime.2.2.1 = 2 := rfl
def mX9_writeTwo : zMth := (yX9_writeTwo, cX9_writeTwo, 2, none, 9, 0, 0)
theorem oX9_writeTwo : mX9_writeTwo.2.2.2.2.1 = 9 := rfl
theorem rX9_writeTwo : mX9_writeTwo.2.2.2.1 = none := rfl
theorem nX9_writeTwo : mX9_writeTwo.2.2.1 = 2 := rfl
def zWd0 (M : zMth) : Cond := .code M.1 M.2.1 M.2.2.1 M.2.2.2.1
/-- what a call site needs: record, parameters, kind (0 virtual, 1 static, 2 init, 3 virtual and makes something), class -/
abbrev zCl : Type := zMth × Nat × Nat × Nat
def zCok (own idx : Nat) (q : zCl) : Prop := (zWd0 q.1 ∈ wsL_law ∧ Cond.methodLink (zRn own) idx q.1.1 ∈ wsL_law ∧ q.1.1.cls = zRn q.2.2.2 ∧ Cond.initialized q.1.1.cls ∈ wsL_law ∧ (q.1.1.cls ≠ "java/lang/invoke/MethodHandle" ∧ q.1.1.cls ≠ "java/lang/invoke/VarHandle" ∧ (parseMethodDescriptor q.1.1.desc).map (fun d => d.parameters.length) = some q.2.1)) ∧ (q.2.2.1 = 0 ∨ q.2.2.1 = 3 → Cond.instanceMethod q.1.1 ∈ wsL_law ∧ Cond.selects q.1.1.cls q.1.1 q.1.1 ∈ wsL_law) ∧ (q.2.2.1 = 1 → Cond.static q.1.1 ∈ wsL_law ∧ q.1.1.cls = zRn own) ∧ (q.2.2.1 = 2 → Cond.instanceMethod q.1.1 ∈ wsL_law ∧ q.1.1.name = "<init>" ∧ q.1.2.2.2.1 = none) ∧ q.2.2.2 < 10 ∧ q.1.2.2.1 ≤ 41 ∧ (q.2.2.1 ≤ 1 → q.1.2.2.2.2.2.1 = 0 ∧ q.1.2.2.2.2.2.2 = 0)
abbrev qX0_hasWord : zCl := (mX0_hasWord, 2, 0, 0)
abbrev qX0_parse : zCl := (mX0_parse, 0, 0, 0)
abbrev qX0_parseCommand : zCl := (mX0_parseCommand, 1, 0, 0)
abbrev qX0_parseNumber : zCl := (mX0_parseNumber, 1, 0, 0)
abbrev qX0_wordOf : zCl := (mX0_wordOf, 1, 1, 0)
abbrev qX1_init : zCl := (mX1_init, 0, 2, 1)
abbrev qX1_remember : zCl := (mX1_remember, 1, 0, 1)
abbrev qX1_takeBack : zCl := (mX1_takeBack, 1, 0, 1)
abbrev qX2_isWorseThan : zCl := (mX2_isWorseThan, 2, 0, 2)
abbrev qX2_set : zCl := (mX2_set, 4, 0, 2)
abbrev qX3_copyFrom : zCl := (mX3_copyFrom, 1, 0, 3)
abbrev qX3_flyerOf : zCl := (mX3_flyerOf, 1, 0, 3)
abbrev qX3_hasCrew : zCl := (mX3_hasCrew, 1, 0, 3)
abbrev qX3_hasLeg : zCl := (mX3_hasLeg, 1, 0, 3)
abbrev qX3_hasTwin : zCl := (mX3_hasTwin, 4, 0, 3)
abbrev qX3_init : zCl := (mX3_init, 0, 2, 3)
abbrev qX3_isOnCall : zCl := (mX3_isOnCall, 2, 0, 3)
abbrev qX3_isOpen : zCl := (mX3_isOpen, 1, 0, 3)
abbrev qX3_isReserve : zCl := (mX3_isReserve, 1, 0, 3)
abbrev qX3_lengthOf : zCl := (mX3_lengthOf, 1, 0, 3)
abbrev qX3_minutesOf : zCl := (mX3_minutesOf, 1, 0, 3)
abbrev qX3_sortLegs : zCl := (mX3_sortLegs, 0, 0, 3)
abbrev qX4_add : zCl := (mX4_add, 3, 0, 4)
abbrev qX4_flownEntry : zCl := (mX4_flownEntry, 1, 0, 4)
abbrev qX5_put : zCl := (mX5_put, 1, 0, 5)
abbrev qX5_putDigit : zCl := (mX5_putDigit, 1, 0, 5)
abbrev qX5_putTime : zCl := (mX5_putTime, 1, 0, 5)
abbrev qX5_putWord : zCl := (mX5_putWord, 1, 0, 5)
abbrev qX5_write : zCl := (mX5_write, 2, 0, 5)
abbrev qX6_append : zCl := (mX6_append, 2, 0, 6)
abbrev qX6_breaks : zCl := (mX6_breaks, 2, 0, 6)
abbrev qX6_endsAtBase : zCl := (mX6_endsAtBase, 1, 0, 6)
abbrev qX6_findViolations : zCl := (mX6_findViolations, 1, 0, 6)
abbrev qX6_flownWithin : zCl := (mX6_flownWithin, 2, 0, 6)
abbrev qX6_init : zCl := (mX6_init, 1, 2, 6)
abbrev qX6_isHome : zCl := (mX6_isHome, 0, 0, 6)
abbrev qX6_lastBreaks : zCl := (mX6_lastBreaks, 0, 0, 6)
abbrev qX6_load : zCl := (mX6_load, 1, 0, 6)
abbrev qX6_nightCount : zCl := (mX6_nightCount, 0, 0, 6)
abbrev qX6_overfillsWindow : zCl := (mX6_overfillsWindow, 1, 0, 6)
abbrev qX6_pairingCount : zCl := (mX6_pairingCount, 0, 0, 6)
abbrev qX6_positionOf : zCl := (mX6_positionOf, 1, 0, 6)
abbrev qX6_removeLast : zCl := (mX6_removeLast, 0, 0, 6)
abbrev qX6_rideMinutes : zCl := (mX6_rideMinutes, 0, 0, 6)
abbrev qX6_sizeOf : zCl := (mX6_sizeOf, 1, 0, 6)
abbrev qX6_spanOf : zCl := (mX6_spanOf, 1, 0, 6)
abbrev qX7_extend : zCl := (mX7_extend, 2, 1, 7)
abbrev qX7_init : zCl := (mX7_init, 2, 2, 7)
abbrev qX7_isBehind : zCl := (mX7_isBehind, 1, 0, 7)
abbrev qX7_judge : zCl := (mX7_judge, 1, 0, 7)
abbrev qX7_run : zCl := (mX7_run, 1, 0, 7)
abbrev qX8_addCrew : zCl := (mX8_addCrew, 1, 0, 8)
abbrev qX8_addLeg : zCl := (mX8_addLeg, 4, 0, 8)
abbrev qX8_bestLeg : zCl := (mX8_bestLeg, 2, 0, 8)
abbrev qX8_bestMinutes : zCl := (mX8_bestMinutes, 1, 0, 8)
abbrev qX8_called : zCl := (mX8_called, 1, 0, 8)
abbrev qX8_cancel : zCl := (mX8_cancel, 1, 0, 8)
abbrev qX8_changeReserve : zCl := (mX8_changeReserve, 3, 0, 8)
abbrev qX8_changeRule : zCl := (mX8_changeRule, 2, 0, 8)
abbrev qX8_clearViolations : zCl := (mX8_clearViolations, 1, 0, 8)
abbrev qX8_cost : zCl := (mX8_cost, 2, 0, 8)
abbrev qX8_costOf : zCl := (mX8_costOf, 2, 0, 8)
abbrev qX8_crewCount : zCl := (mX8_crewCount, 0, 0, 8)
abbrev qX8_delay : zCl := (mX8_delay, 2, 0, 8)
abbrev qX8_drop : zCl := (mX8_drop, 2, 0, 8)
abbrev qX8_duty : zCl := (mX8_duty, 3, 0, 8)
abbrev qX8_dutyCount : zCl := (mX8_dutyCount, 1, 0, 8)
abbrev qX8_execute : zCl := (mX8_execute, 0, 0, 8)
abbrev qX8_feed : zCl := (mX8_feed, 1, 0, 8)
abbrev qX8_findOffer : zCl := (mX8_findOffer, 1, 0, 8)
abbrev qX8_fly : zCl := (mX8_fly, 2, 0, 8)
abbrev qX8_home : zCl := (mX8_home, 1, 0, 8)
abbrev qX8_init : zCl := (mX8_init, 0, 2, 8)
abbrev qX8_isIn : zCl := (mX8_isIn, 3, 1, 8)
abbrev qX8_item : zCl := (mX8_item, 3, 0, 8)
abbrev qX8_itemCount : zCl := (mX8_itemCount, 1, 0, 8)
abbrev qX8_kept : zCl := (mX8_kept, 1, 0, 8)
abbrev qX8_leave : zCl := (mX8_leave, 2, 0, 8)
abbrev qX8_leg : zCl := (mX8_leg, 2, 0, 8)
abbrev qX8_legCount : zCl := (mX8_legCount, 0, 0, 8)
abbrev qX8_letter : zCl := (mX8_letter, 2, 0, 8)
abbrev qX8_minutes : zCl := (mX8_minutes, 1, 0, 8)
abbrev qX8_offer : zCl := (mX8_offer, 2, 0, 8)
abbrev qX8_open : zCl := (mX8_open, 1, 0, 8)
abbrev qX8_openCount : zCl := (mX8_openCount, 0, 0, 8)
abbrev qX8_pair : zCl := (mX8_pair, 0, 0, 8)
abbrev qX8_pairOpenLegs : zCl := (mX8_pairOpenLegs, 0, 0, 8)
abbrev qX8_pairings : zCl := (mX8_pairings, 1, 0, 8)
abbrev qX8_place : zCl := (mX8_place, 3, 0, 8)
abbrev qX8_putCrew : zCl := (mX8_putCrew, 1, 0, 8)
abbrev qX8_putLeg : zCl := (mX8_putLeg, 4, 0, 8)
abbrev qX8_reason : zCl := (mX8_reason, 3, 0, 8)
abbrev qX8_reasonAgainst : zCl := (mX8_reasonAgainst, 3, 0, 8)
abbrev qX8_repair : zCl := (mX8_repair, 0, 0, 8)
abbrev qX8_repairRows : zCl := (mX8_repairRows, 0, 0, 8)
abbrev qX8_repaired : zCl := (mX8_repaired, 2, 0, 8)
abbrev qX8_reserve : zCl := (mX8_reserve, 2, 0, 8)
abbrev qX8_reserveFor : zCl := (mX8_reserveFor, 1, 0, 8)
abbrev qX8_restore : zCl := (mX8_restore, 0, 0, 8)
abbrev qX8_ride : zCl := (mX8_ride, 2, 0, 8)
abbrev qX8_rule : zCl := (mX8_rule, 1, 0, 8)
abbrev qX8_runCommand : zCl := (mX8_runCommand, 1, 0, 8)
abbrev qX8_save : zCl := (mX8_save, 0, 0, 8)
abbrev qX8_setReserve : zCl := (mX8_setReserve, 3, 0, 8)
abbrev qX8_setRule : zCl := (mX8_setRule, 2, 0, 8)
abbrev qX8_shift : zCl := (mX8_shift, 2, 0, 8)
abbrev qX8_strike : zCl := (mX8_strike, 1, 0, 8)
abbrev qX8_take : zCl := (mX8_take, 3, 0, 8)
abbrev qX8_takeBest : zCl := (mX8_takeBest, 1, 0, 8)
abbrev qX8_takePairing : zCl := (mX8_takePairing, 1, 0, 8)
abbrev qX8_undo : zCl := (mX8_undo, 0, 0, 8)
abbrev qX8_violation : zCl := (mX8_violation, 3, 0, 8)
abbrev qX8_violationCount : zCl := (mX8_violationCount, 1, 0, 8)
abbrev qX8_within : zCl := (mX8_within, 3, 0, 8)
abbrev qX9_addCrew : zCl := (mX9_addCrew, 1, 0, 9)
abbrev qX9_addLeg : zCl := (mX9_addLeg, 4, 0, 9)
abbrev qX9_assign : zCl := (mX9_assign, 3, 0, 9)
abbrev qX9_beginsDuty : zCl := (mX9_beginsDuty, 1, 0, 9)
abbrev qX9_bestLeg : zCl := (mX9_bestLeg, 2, 0, 9)
abbrev qX9_bestMinutes : zCl := (mX9_bestMinutes, 1, 0, 9)
abbrev qX9_callFor : zCl := (mX9_callFor, 2, 0, 9)
abbrev qX9_called : zCl := (mX9_called, 1, 0, 9)
abbrev qX9_calledFor : zCl := (mX9_calledFor, 1, 0, 9)
abbrev qX9_cancel : zCl := (mX9_cancel, 1, 0, 9)
abbrev qX9_change : zCl := (mX9_change, 0, 0, 9)
abbrev qX9_command : zCl := (mX9_command, 1, 3, 9)
abbrev qX9_consider : zCl := (mX9_consider, 3, 0, 9)
abbrev qX9_cost : zCl := (mX9_cost, 2, 0, 9)
abbrev qX9_costOf : zCl := (mX9_costOf, 2, 0, 9)
abbrev qX9_crewAt : zCl := (mX9_crewAt, 2, 1, 9)
abbrev qX9_crewCount : zCl := (mX9_crewCount, 0, 0, 9)
abbrev qX9_delay : zCl := (mX9_delay, 2, 0, 9)
abbrev qX9_drop : zCl := (mX9_drop, 2, 0, 9)
abbrev qX9_duty : zCl := (mX9_duty, 3, 0, 9)
abbrev qX9_dutyCount : zCl := (mX9_dutyCount, 1, 0, 9)
abbrev qX9_dutyEnd : zCl := (mX9_dutyEnd, 1, 0, 9)
abbrev qX9_dutyMinutes : zCl := (mX9_dutyMinutes, 1, 0, 9)
abbrev qX9_dutyOf : zCl := (mX9_dutyOf, 1, 0, 9)
abbrev qX9_enter : zCl := (mX9_enter, 3, 0, 9)
abbrev qX9_execute : zCl := (mX9_execute, 0, 3, 9)
abbrev qX9_feed : zCl := (mX9_feed, 1, 0, 9)
abbrev qX9_findBest : zCl := (mX9_findBest, 1, 0, 9)
abbrev qX9_findOffer : zCl := (mX9_findOffer, 1, 0, 9)
abbrev qX9_findOpen : zCl := (mX9_findOpen, 0, 0, 9)
abbrev qX9_flierOf : zCl := (mX9_flierOf, 1, 0, 9)
abbrev qX9_flownFrom : zCl := (mX9_flownFrom, 2, 0, 9)
abbrev qX9_flownWithin : zCl := (mX9_flownWithin, 2, 0, 9)
abbrev qX9_fly : zCl := (mX9_fly, 2, 0, 9)
abbrev qX9_gapBefore : zCl := (mX9_gapBefore, 1, 0, 9)
abbrev qX9_give : zCl := (mX9_give, 1, 0, 9)
abbrev qX9_here : zCl := (mX9_here, 0, 0, 9)
abbrev qX9_hinders : zCl := (mX9_hinders, 2, 0, 9)
abbrev qX9_hinders_ : zCl := (mX9_hinders_, 3, 0, 9)
abbrev qX9_home : zCl := (mX9_home, 1, 0, 9)
abbrev qX9_in : zCl := (mX9_in, 3, 1, 9)
abbrev qX9_init : zCl := (mX9_init, 0, 2, 9)
abbrev qX9_isCrew : zCl := (mX9_isCrew, 1, 0, 9)
abbrev qX9_isFlown : zCl := (mX9_isFlown, 1, 0, 9)
abbrev qX9_isHome : zCl := (mX9_isHome, 0, 0, 9)
abbrev qX9_isLeg : zCl := (mX9_isLeg, 1, 0, 9)
abbrev qX9_isOpen : zCl := (mX9_isOpen, 1, 0, 9)
abbrev qX9_isReserve : zCl := (mX9_isReserve, 1, 0, 9)
abbrev qX9_isThere : zCl := (mX9_isThere, 4, 0, 9)
abbrev qX9_isWay : zCl := (mX9_isWay, 3, 0, 9)
abbrev qX9_isWord : zCl := (mX9_isWord, 2, 0, 9)
abbrev qX9_item : zCl := (mX9_item, 3, 0, 9)
abbrev qX9_itemCount : zCl := (mX9_itemCount, 1, 0, 9)
abbrev qX9_leg : zCl := (mX9_leg, 2, 0, 9)
abbrev qX9_legAt : zCl := (mX9_legAt, 1, 0, 9)
abbrev qX9_legCount : zCl := (mX9_legCount, 0, 0, 9)
abbrev qX9_lengthOf : zCl := (mX9_lengthOf, 1, 0, 9)
abbrev qX9_letter : zCl := (mX9_letter, 2, 0, 9)
abbrev qX9_minutes : zCl := (mX9_minutes, 1, 0, 9)
abbrev qX9_minutesOf : zCl := (mX9_minutesOf, 1, 0, 9)
abbrev qX9_of : zCl := (mX9_of, 2, 0, 9)
abbrev qX9_ofCrew : zCl := (mX9_ofCrew, 2, 0, 9)
abbrev qX9_offer : zCl := (mX9_offer, 2, 0, 9)
abbrev qX9_open : zCl := (mX9_open, 1, 0, 9)
abbrev qX9_openCount : zCl := (mX9_openCount, 0, 0, 9)
abbrev qX9_pair : zCl := (mX9_pair, 0, 0, 9)
abbrev qX9_pairings : zCl := (mX9_pairings, 1, 0, 9)
abbrev qX9_perform : zCl := (mX9_perform, 1, 0, 9)
abbrev qX9_place : zCl := (mX9_place, 3, 0, 9)
abbrev qX9_placeIn : zCl := (mX9_placeIn, 2, 0, 9)
abbrev qX9_push : zCl := (mX9_push, 1, 0, 9)
abbrev qX9_put : zCl := (mX9_put, 2, 0, 9)
abbrev qX9_readNumber : zCl := (mX9_readNumber, 1, 0, 9)
abbrev qX9_reason : zCl := (mX9_reason, 3, 0, 9)
abbrev qX9_reorder : zCl := (mX9_reorder, 1, 0, 9)
abbrev qX9_repair : zCl := (mX9_repair, 0, 0, 9)
abbrev qX9_repaired : zCl := (mX9_repaired, 2, 0, 9)
abbrev qX9_reserve : zCl := (mX9_reserve, 2, 0, 9)
abbrev qX9_restore : zCl := (mX9_restore, 0, 0, 9)
abbrev qX9_ride : zCl := (mX9_ride, 2, 0, 9)
abbrev qX9_rule : zCl := (mX9_rule, 1, 0, 9)
abbrev qX9_save : zCl := (mX9_save, 0, 0, 9)
abbrev qX9_search : zCl := (mX9_search, 3, 0, 9)
abbrev qX9_setReserve : zCl := (mX9_setReserve, 3, 0, 9)
abbrev qX9_setRule : zCl := (mX9_setRule, 2, 0, 9)
abbrev qX9_take : zCl := (mX9_take, 1, 0, 9)
abbrev qX9_takeBest : zCl := (mX9_takeBest, 1, 0, 9)
abbrev qX9_takeOut : zCl := (mX9_takeOut, 1, 0, 9)
abbrev qX9_undo : zCl := (mX9_undo, 0, 0, 9)
abbrev qX9_violates : zCl := (mX9_violates, 2, 0, 9)
abbrev qX9_violation : zCl := (mX9_violation, 3, 0, 9)
abbrev qX9_violationAt : zCl := (mX9_violationAt, 1, 0, 9)
abbrev qX9_violationCount : zCl := (mX9_violationCount, 1, 0, 9)
abbrev qX9_violations : zCl := (mX9_violations, 0, 0, 9)
abbrev qX9_within : zCl := (mX9_within, 3, 0, 9)
abbrev qX9_wordOf : zCl := (mX9_wordOf, 1, 3, 9)
abbrev qX9_write : zCl := (mX9_write, 1, 0, 9)
abbrev qX9_writeItem : zCl := (mX9_writeItem, 1, 0, 9)
abbrev qX9_writeTime : zCl := (mX9_writeTime, 1, 0, 9)
abbrev qX9_writeTwo : zCl := (mX9_writeTwo, 1, 0, 9)
theorem zC_10_9 : zCok 10 9 qX8_init := ⟨⟨zr_1 _ (List.mem_of_getElem? (i := 8) rfl), zr_1 _ (List.mem_of_getElem? (i := 6) rfl), rfl, zr_1 _ (List.mem_of_getElem? (i := 2) rfl), by decide +kernel, by decide +kernel, by decide +kernel⟩, fun h => absurd h (by decide), fun h => absurd h (by decide), fun _ => ⟨zr_1 _ (List.mem_of_getElem? (i := 7) rfl), rfl, rfl⟩, by decide, Nat.le_of_ble_eq_true rfl, fun h => absurd h (by decide)⟩
theorem zC_8_9 : zCok 8 9 qX3_init := ⟨⟨zr_3 _ (List.mem_of_getElem? (i := 1) rfl), zr_2 _ (List.mem_of_getElem? (i := 23) rfl), rfl, zr_1 _ (List.mem_of_getElem? (i := 14) rfl), by decide +kernel, by decide +kernel, by decide +kernel⟩, fun h => absurd h (by decide), fun h => absurd h (by decide), fun _ => ⟨zr_3 _ (List.mem_of_getElem? (i := 0) rfl), rfl, rfl⟩, by decide, Nat.le_of_ble_eq_true rfl, fun h => absurd h (by decide)⟩
theorem zC_8_28 : zCok 8 28 qX1_init := ⟨⟨zr_3 _ (List.mem_of_getElem? (i := 22) rfl), zr_3 _ (List.mem_of_getElem? (i := 20) rfl), rfl, zr_1 _ (List.mem_of_getElem? (i := 21) rfl), by decide +kernel, by decide +kernel, by decide +kernel⟩, fun h => absurd h (by decide), fun h => absurd h (by decide), fun _ => ⟨zr_3 _ (List.mem_of_getElem? (i := 21) rfl), rfl, rfl⟩, by decide, Nat.le_of_ble_eq_true rfl, fun h => absurd h (by decide)⟩
theorem zC_1_17 : zCok 1 17 qX3_init := ⟨⟨zr_3 _ (List.mem_of_getElem? (i := 1) rfl), zr_4 _ (List.mem_of_getElem? (i := 2) rfl), rfl, zr_1 _ (List.mem_of_getElem? (i := 14) rfl), by decide +kernel, by decide +kernel, by decide +kernel⟩, fun h => absurd h (by decide), fun h => absurd h (by decide), fun _ => ⟨zr_3 _ (List.mem_of_getElem? (i := 0) rfl), rfl, rfl⟩, by decide, Nat.le_of_ble_eq_true rfl, fun h => absurd h (by decide)⟩
theorem zC_8_35 : zCok 8 35 qX6_init := ⟨⟨zr_4 _ (List.mem_of_getElem? (i := 5) rfl), zr_4 _ (List.mem_of_getElem? (i := 3) rfl), rfl, zr_2 _ (List.mem_of_getElem? (i := 1) rfl), by decide +kernel, by decide +kernel, by decide +kernel⟩, fun h => absurd h (by decide), fun h => absurd h (by decide), fun _ => ⟨zr_4 _ (List.mem_of_getElem? (i := 4) rfl), rfl, rfl⟩, by decide, Nat.le_of_ble_eq_true rfl, fun h => absurd h (by decide)⟩
theorem zC_8_58 : zCok 8 58 qX7_init := ⟨⟨zr_5 _ (List.mem_of_getElem? (i := 8) rfl), zr_5 _ (List.mem_of_getElem? (i := 6) rfl), rfl, zr_2 _ (List.mem_of_getElem? (i := 13) rfl), by decide +kernel, by decide +kernel, by decide +kernel⟩, fun h => absurd h (by decide), fun h => absurd h (by decide), fun _ => ⟨zr_5 _ (List.mem_of_getElem? (i := 7) rfl), rfl, rfl⟩, by decide, Nat.le_of_ble_eq_true rfl, fun h => absurd h (by decide)⟩
theorem zC_10_12 : zCok 10 12 qX9_init := ⟨⟨zr_6 _ (List.mem_of_getElem? (i := 3) rfl), zr_6 _ (List.mem_of_getElem? (i := 1) rfl), rfl, zr_1 _ (List.mem_of_getElem? (i := 5) rfl), by decide +kernel, by decide +kernel, by decide +kernel⟩, fun h => absurd h (by decide), fun h => absurd h (by decide), fun _ => ⟨zr_6 _ (List.mem_of_getElem? (i := 2) rfl), rfl, rfl⟩, by decide, Nat.le_of_ble_eq_true rfl, fun h => absurd h (by decide)⟩
theorem zC_10_13 : zCok 10 13 qX8_addLeg := ⟨⟨zr_6 _ (List.mem_of_getElem? (i := 23) rfl), zr_6 _ (List.mem_of_getElem? (i := 20) rfl), rfl, zr_1 _ (List.mem_of_getElem? (i := 2) rfl), by decide +kernel, by decide +kernel, by decide +kernel⟩, fun _ => ⟨zr_6 _ (List.mem_of_getElem? (i := 21) rfl), zr_6 _ (List.mem_of_getElem? (i := 22) rfl)⟩, fun h => absurd h (by decide), fun h => absurd h (by decide), by decide, Nat.le_of_ble_eq_true rfl, fun _ => ⟨rfl, rfl⟩⟩
theorem zC_8_79 : zCok 8 79 qX3_copyFrom := ⟨⟨zr_7 _ (List.mem_of_getElem? (i := 3) rfl), zr_7 _ (List.mem_of_getElem? (i := 0) rfl), rfl, zr_1 _ (List.mem_of_getElem? (i := 14) rfl), by decide +kernel, by decide +kernel, by decide +kernel⟩, fun _ => ⟨zr_7 _ (List.mem_of_getElem? (i := 1) rfl), zr_7 _ (List.mem_of_getElem? (i := 2) rfl)⟩, fun h => absurd h (by decide), fun h => absurd h (by decide), by decide, Nat.le_of_ble_eq_true rfl, fun _ => ⟨rfl, rfl⟩⟩
theorem zC_8_82 : zCok 8 82 qX8_putLeg := ⟨⟨zr_7 _ (List.mem_of_getElem? (i := 9) rfl), zr_7 _ (List.mem_of_getElem? (i := 6) rfl), rfl, zr_1 _ (List.mem_of_getElem? (i := 2) rfl), by decide +kernel, by decide +kernel, by decide +kernel⟩, fun _ => ⟨zr_7 _ (List.mem_of_getElem? (i := 7) rfl), zr_7 _ (List.mem_of_getElem? (i := 8) rfl)⟩, fun h => absurd h (by decide), fun h => absurd h (by decide), by decide, Nat.le_of_ble_eq_true rfl, fun _ => ⟨rfl, rfl⟩⟩
theorem zC_8_127 : zCok 8 127 qX8_isIn := ⟨⟨zr_7 _ (List.mem_of_getElem? (i := 18) rfl), zr_7 _ (List.mem_of_getElem? (i := 16) rfl), rfl, zr_1 _ (List.mem_of_getElem? (i := 2) rfl), by decide +kernel, by decide +kernel, by decide +kernel⟩, fun h => absurd h (by decide), fun _ => ⟨zr_7 _ (List.mem_of_getElem? (i := 17) rfl), rfl⟩, fun h => absurd h (by decide), by decide, Nat.le_of_ble_eq_true rfl, fun _ => ⟨rfl, rfl⟩⟩
theorem zC_8_301 : zCok 8 301 qX3_hasTwin := ⟨⟨zr_7 _ (List.mem_of_getElem? (i := 22) rfl), zr_7 _ (List.mem_of_getElem? (i := 19) rfl), rfl, zr_1 _ (List.mem_of_getElem? (i := 14) rfl), by decide +kernel, by decide +kernel, by decide +kernel⟩, fun _ => ⟨zr_7 _ (List.mem_of_getElem? (i := 20) rfl), zr_7 _ (List.mem_of_getElem? (i := 21) rfl)⟩, fun h => absurd h (by decide), fun h => absurd h (by decide), by decide, Nat.le_of_ble_eq_true rfl, fun _ => ⟨rfl, rfl⟩⟩
theorem zC_8_305 : zCok 8 305 qX3_sortLegs := ⟨⟨zr_8 _ (List.mem_of_getElem? (i := 2) rfl), zr_7 _ (List.mem_of_getElem? (i := 23) rfl), rfl, zr_1 _ (List.mem_of_getElem? (i := 14) rfl), by decide +kernel, by decide +kernel, by decide +kernel⟩, fun _ => ⟨zr_8 _ (List.mem_of_getElem? (i := 0) rfl), zr_8 _ (List.mem_of_getElem? (i := 1) rfl)⟩, fun h => absurd h (by decide), fun h => absurd h (by decide), by decide, Nat.le_of_ble_eq_true rfl, fun _ => ⟨rfl, rfl⟩⟩
theorem zC_8_86 : zCok 8 86 qX8_kept := ⟨⟨zr_8 _ (List.mem_of_getElem? (i := 6) rfl), zr_8 _ (List.mem_of_getElem? (i := 3) rfl), rfl, zr_1 _ (List.mem_of_getElem? (i := 2) rfl), by decide +kernel, by decide +kernel, by decide +kernel⟩, fun _ => ⟨zr_8 _ (List.mem_of_getElem? (i := 4) rfl), zr_8 _ (List.mem_of_getElem? (i := 5) rfl)⟩, fun h => absurd h (by decide), fun h => absurd h (by decide), by decide, Nat.le_of_ble_eq_true rfl, fun _ => ⟨rfl, rfl⟩⟩
theorem zC_8_298 : zCok 8 298 qX1_remember := ⟨⟨zr_8 _ (List.mem_of_getElem? (i := 10) rfl), zr_8 _ (List.mem_of_getElem? (i := 7) rfl), rfl, zr_1 _ (List.mem_of_getElem? (i := 21) rfl), by decide +kernel, by decide +kernel, by decide +kernel⟩, fun _ => ⟨zr_8 _ (List.mem_of_getElem? (i := 8) rfl), zr_8 _ (List.mem_of_getElem? (i := 9) rfl)⟩, fun h => absurd h (by decide), fun h => absurd h (by decide), by decide, Nat.le_of_ble_eq_true rfl, fun _ => ⟨rfl, rfl⟩⟩
theorem zC_1_22 : zCok 1 22 qX3_copyFrom := ⟨⟨zr_7 _ (List.mem_of_getElem? (i := 3) rfl), zr_8 _ (List.mem_of_getElem? (i := 13) rfl), rfl, zr_1 _ (List.mem_of_getElem? (i := 14) rfl), by decide +kernel, by decide +kernel, by decide +kernel⟩, fun _ => ⟨zr_7 _ (List.mem_of_getElem? (i := 1) rfl), zr_7 _ (List.mem_of_getElem? (i := 2) rfl)⟩, fun h => absurd h (by decide), fun h => absurd h (by decide), by decide, Nat.le_of_ble_eq_true rfl, fun _ => ⟨rfl, rfl⟩⟩
theorem zC_10_17 : zCok 10 17 qX9_addLeg := ⟨⟨zr_8 _ (List.mem_of_getElem? (i := 17) rfl), zr_8 _ (List.mem_of_getElem? (i := 14) rfl), rfl, zr_1 _ (List.mem_of_getElem? (i := 5) rfl), by decide +kernel, by decide +kernel, by decide +kernel⟩, fun _ => ⟨zr_8 _ (List.mem_of_getElem? (i := 15) rfl), zr_8 _ (List.mem_of_getElem? (i := 16) rfl)⟩, fun h => absurd h (by decide), fun h => absurd h (by decide), by decide, Nat.le_of_ble_eq_true rfl, fun _ => ⟨rfl, rfl⟩⟩
theorem zC_9_59 : zCok 9 59 qX9_in := ⟨⟨zr_9 _ (List.mem_of_getElem? (i := 0) rfl), zr_8 _ (List.mem_of_getElem? (i := 22) rfl), rfl, zr_1 _ (List.mem_of_getElem? (i := 5) rfl), by decide +kernel, by decide +kernel, by decide +kernel⟩, fun h => absurd h (by decide), fun _ => ⟨zr_8 _ (List.mem_of_getElem? (i := 23) rfl), rfl⟩, fun h => absurd h (by decide), by decide, Nat.le_of_ble_eq_true rfl, fun _ => ⟨rfl, rfl⟩⟩
theorem zC_9_84 : zCok 9 84 qX9_isThere := ⟨⟨zr_9 _ (List.mem_of_getElem? (i := 4) rfl), zr_9 _ (List.mem_of_getElem? (i := 1) rfl), rfl, zr_1 _ (List.mem_of_getElem? (i := 5) rfl), by decide +kernel, by decide +kernel, by decide +kernel⟩, fun _ => ⟨zr_9 _ (List.mem_of_getElem? (i := 2) rfl), zr_9 _ (List.mem_of_getElem? (i := 3) rfl)⟩, fun h => absurd h (by decide), fun h => absurd h (by decide), by decide, Nat.le_of_ble_eq_true rfl, fun _ => ⟨rfl, rfl⟩⟩
theorem zC_9_63 : zCok 9 63 qX9_of := ⟨⟨zr_9 _ (List.mem_of_getElem? (i := 8) rfl), zr_9 _ (List.mem_of_getElem? (i := 5) rfl), rfl, zr_1 _ (List.mem_of_getElem? (i := 5) rfl), by decide +kernel, by decide +kernel, by decide +kernel⟩, fun _ => ⟨zr_9 _ (List.mem_of_getElem? (i := 6) rfl), zr_9 _ (List.mem_of_getElem? (i := 7) rfl)⟩, fun h => absurd h (by decide), fun h => absurd h (by decide), by decide, Nat.le_of_ble_eq_true rfl, fun _ => ⟨rfl, rfl⟩⟩
theorem zC_9_88 : zCok 9 88 qX9_change := ⟨⟨zr_9 _ (List.mem_of_getElem? (i := 12) rfl), zr_9 _ (List.mem_of_getElem? (i := 9) rfl), rfl, zr_1 _ (List.mem_of_getElem? (i := 5) rfl), by decide +kernel, by decide +kernel, by decide +kernel⟩, fun _ => ⟨zr_9 _ (List.mem_of_getElem? (i := 10) rfl), zr_9 _ (List.mem_of_getElem? (i := 11) rfl)⟩, fun h => absurd h (by decide), fun h => absurd h (by decide), by decide, Nat.le_of_ble_eq_true rfl, fun _ => ⟨rfl, rfl⟩⟩
theorem zC_9_75 : zCok 9 75 qX9_push := ⟨⟨zr_9 _ (List.mem_of_getElem? (i := 17) rfl), zr_9 _ (List.mem_of_getElem? (i := 14) rfl), rfl, zr_1 _ (List.mem_of_getElem? (i := 5) rfl), by decide +kernel, by decide +kernel, by decide +kernel⟩, fun _ => ⟨zr_9 _ (List.mem_of_getElem? (i := 15) rfl), zr_9 _ (List.mem_of_getElem? (i := 16) rfl)⟩, fun h => absurd h (by decide), fun h => absurd h (by decide), by decide, Nat.le_of_ble_eq_true rfl, fun _ => ⟨rfl, rfl⟩⟩
theorem zC_10_18 : zCok 10 18 qX8_addCrew := ⟨⟨zr_9 _ (List.mem_of_getElem? (i := 22) rfl), zr_9 _ (List.mem_of_getElem? (i := 19) rfl), rfl, zr_1 _ (List.mem_of_getElem? (i := 2) rfl), by decide +kernel, by decide +kernel, by decide +kernel⟩, fun _ => ⟨zr_9 _ (List.mem_of_getElem? (i := 20) rfl), zr_9 _ (List.mem_of_getElem? (i := 21) rfl)⟩, fun h => absurd h (by decide), fun h => absurd h (by decide), by decide, Nat.le_of_ble_eq_true rfl, fun _ => ⟨rfl, rfl⟩⟩
theorem zC_8_90 : zCok 8 90 qX8_putCrew := ⟨⟨zr_10 _ (List.mem_of_getElem? (i := 2) rfl), zr_9 _ (List.mem_of_getElem? (i := 23) rfl), rfl, zr_1 _ (List.mem_of_getElem? (i := 2) rfl), by decide +kernel, by decide +kernel, by decide +kernel⟩, fun _ => ⟨zr_10 _ (List.mem_of_getElem? (i := 0) rfl), zr_10 _ (List.mem_of_getElem? (i := 1) rfl)⟩, fun h => absurd h (by decide), fun h => absurd h (by decide), by decide, Nat.le_of_ble_eq_true rfl, fun _ => ⟨rfl, rfl⟩⟩
theorem zC_10_22 : zCok 10 22 qX9_addCrew := ⟨⟨zr_10 _ (List.mem_of_getElem? (i := 8) rfl), zr_10 _ (List.mem_of_getElem? (i := 5) rfl), rfl, zr_1 _ (List.mem_of_getElem? (i := 5) rfl), by decide +kernel, by decide +kernel, by decide +kernel⟩, fun _ => ⟨zr_10 _ (List.mem_of_getElem? (i := 6) rfl), zr_10 _ (List.mem_of_getElem? (i := 7) rfl)⟩, fun h => absurd h (by decide), fun h => absurd h (by decide), by decide, Nat.le_of_ble_eq_true rfl, fun _ => ⟨rfl, rfl⟩⟩
theorem zC_9_91 : zCok 9 91 qX9_crewAt := ⟨⟨zr_10 _ (List.mem_of_getElem? (i := 11) rfl), zr_10 _ (List.mem_of_getElem? (i := 9) rfl), rfl, zr_1 _ (List.mem_of_getElem? (i := 5) rfl), by decide +kernel, by decide +kernel, by decide +kernel⟩, fun h => absurd h (by decide), fun _ => ⟨zr_10 _ (List.mem_of_getElem? (i := 10) rfl), rfl⟩, fun h => absurd h (by decide), by decide, Nat.le_of_ble_eq_true rfl, fun _ => ⟨rfl, rfl⟩⟩
theorem zC_10_23 : zCok 10 23 qX8_legCount := ⟨⟨zr_10 _ (List.mem_of_getElem? (i := 15) rfl), zr_10 _ (List.mem_of_getElem? (i := 12) rfl), rfl, zr_1 _ (List.mem_of_getElem? (i := 2) rfl), by decide +kernel, by decide +kernel, by decide +kernel⟩, fun _ => ⟨zr_10 _ (List.mem_of_getElem? (i := 13) rfl), zr_10 _ (List.mem_of_getElem? (i := 14) rfl)⟩, fun h => absurd h (by decide), fun h => absurd h (by decide), by decide, Nat.le_of_ble_eq_true rfl, fun _ => ⟨rfl, rfl⟩⟩
theorem zC_10_27 : zCok 10 27 qX9_legCount := ⟨⟨zr_10 _ (List.mem_of_getElem? (i := 19) rfl), zr_10 _ (List.mem_of_getElem? (i := 16) rfl), rfl, zr_1 _ (List.mem_of_getElem? (i := 5) rfl), by decide +kernel, by decide +kernel, by decide +kernel⟩, fun _ => ⟨zr_10 _ (List.mem_of_getElem? (i := 17) rfl), zr_10 _ (List.mem_of_getElem? (i := 18) rfl)⟩, fun h => absurd h (by decide), fun h => absurd h (by decide), by decide, Nat.le_of_ble_eq_true rfl, fun _ => ⟨rfl, rfl⟩⟩
theorem zC_10_28 : zCok 10 28 qX8_crewCount := ⟨⟨zr_10 _ (List.mem_of_getElem? (i := 23) rfl), zr_10 _ (List.mem_of_getElem? (i := 20) rfl), rfl, zr_1 _ (List.mem_of_getElem? (i := 2) rfl), by decide +kernel, by decide +kernel, by decide +kernel⟩, fun _ => ⟨zr_10 _ (List.mem_of_getElem? (i := 21) rfl), zr_10 _ (List.mem_of_getElem? (i := 22) rfl)⟩, fun h => absurd h (by decide), fun h => absurd h (by decide), by decide, Nat.le_of_ble_eq_true rfl, fun _ => ⟨rfl, rfl⟩⟩
theorem zC_10_31 : zCok 10 31 qX9_crewCount := ⟨⟨zr_11 _ (List.mem_of_getElem? (i := 3) rfl), zr_11 _ (List.mem_of_getElem? (i := 0) rfl), rfl, zr_1 _ (List.mem_of_getElem? (i := 5) rfl), by decide +kernel, by decide +kernel, by decide +kernel⟩, fun _ => ⟨zr_11 _ (List.mem_of_getElem? (i := 1) rfl), zr_11 _ (List.mem_of_getElem? (i := 2) rfl)⟩, fun h => absurd h (by decide), fun h => absurd h (by decide), by decide, Nat.le_of_ble_eq_true rfl, fun _ => ⟨rfl, rfl⟩⟩
theorem zC_10_32 : zCok 10 32 qX8_leg := ⟨⟨zr_11 _ (List.mem_of_getElem? (i := 7) rfl), zr_11 _ (List.mem_of_getElem? (i := 4) rfl), rfl, zr_1 _ (List.mem_of_getElem? (i := 2) rfl), by decide +kernel, by decide +kernel, by decide +kernel⟩, fun _ => ⟨zr_11 _ (List.mem_of_getElem? (i := 5) rfl), zr_11 _ (List.mem_of_getElem? (i := 6) rfl)⟩, fun h => absurd h (by decide), fun h => absurd h (by decide), by decide, Nat.le_of_ble_eq_true rfl, fun _ => ⟨rfl, rfl⟩⟩
theorem zC_8_100 : zCok 8 100 qX3_hasLeg := ⟨⟨zr_11 _ (List.mem_of_getElem? (i := 11) rfl), zr_11 _ (List.mem_of_getElem? (i := 8) rfl), rfl, zr_1 _ (List.mem_of_getElem? (i := 14) rfl), by decide +kernel, by decide +kernel, by decide +kernel⟩, fun _ => ⟨zr_11 _ (List.mem_of_getElem? (i := 9) rfl), zr_11 _ (List.mem_of_getElem? (i := 10) rfl)⟩, fun h => absurd h (by decide), fun h => absurd h (by decide), by decide, Nat.le_of_ble_eq_true rfl, fun _ => ⟨rfl, rfl⟩⟩
theorem zC_8_120 : zCok 8 120 qX3_flyerOf := ⟨⟨zr_11 _ (List.mem_of_getElem? (i := 15) rfl), zr_11 _ (List.mem_of_getElem? (i := 12) rfl), rfl, zr_1 _ (List.mem_of_getElem? (i := 14) rfl), by decide +kernel, by decide +kernel, by decide +kernel⟩, fun _ => ⟨zr_11 _ (List.mem_of_getElem? (i := 13) rfl), zr_11 _ (List.mem_of_getElem? (i := 14) rfl)⟩, fun h => absurd h (by decide), fun h => absurd h (by decide), by decide, Nat.le_of_ble_eq_true rfl, fun _ => ⟨rfl, rfl⟩⟩
theorem zC_10_36 : zCok 10 36 qX9_leg := ⟨⟨zr_11 _ (List.mem_of_getElem? (i := 19) rfl), zr_11 _ (List.mem_of_getElem? (i := 16) rfl), rfl, zr_1 _ (List.mem_of_getElem? (i := 5) rfl), by decide +kernel, by decide +kernel, by decide +kernel⟩, fun _ => ⟨zr_11 _ (List.mem_of_getElem? (i := 17) rfl), zr_11 _ (List.mem_of_getElem? (i := 18) rfl)⟩, fun h => absurd h (by decide), fun h => absurd h (by decide), by decide, Nat.le_of_ble_eq_true rfl, fun _ => ⟨rfl, rfl⟩⟩
theorem zC_9_100 : zCok 9 100 qX9_isLeg := ⟨⟨zr_11 _ (List.mem_of_getElem? (i := 23) rfl), zr_11 _ (List.mem_of_getElem? (i := 20) rfl), rfl, zr_1 _ (List.mem_of_getElem? (i := 5) rfl), by decide +kernel, by decide +kernel, by decide +kernel⟩, fun _ => ⟨zr_11 _ (List.mem_of_getElem? (i := 21) rfl), zr_11 _ (List.mem_of_getElem? (i := 22) rfl)⟩, fun h => absurd h (by decide), fun h => absurd h (by decide), by decide, Nat.le_of_ble_eq_true rfl, fun _ => ⟨rfl, rfl⟩⟩
theorem zC_9_104 : zCok 9 104 qX9_flierOf := ⟨⟨zr_12 _ (List.mem_of_getElem? (i := 3) rfl), zr_12 _ (List.mem_of_getElem? (i := 0) rfl), rfl, zr_1 _ (List.mem_of_getElem? (i := 5) rfl), by decide +kernel, by decide +kernel, by decide +kernel⟩, fun _ => ⟨zr_12 _ (List.mem_of_getElem? (i := 1) rfl), zr_12 _ (List.mem_of_getElem? (i := 2) rfl)⟩, fun h => absurd h (by decide), fun h => absurd h (by decide), by decide, Nat.le_of_ble_eq_true rfl, fun _ => ⟨rfl, rfl⟩⟩
theorem zC_9_97 : zCok 9 97 qX9_placeIn := ⟨⟨zr_12 _ (List.mem_of_getElem? (i := 7) rfl), zr_12 _ (List.mem_of_getElem? (i := 4) rfl), rfl, zr_1 _ (List.mem_of_getElem? (i := 5) rfl), by decide +kernel, by decide +kernel, by decide +kernel⟩, fun _ => ⟨zr_12 _ (List.mem_of_getElem? (i := 5) rfl), zr_12 _ (List.mem_of_getElem? (i := 6) rfl)⟩, fun h => absurd h (by decide), fun h => absurd h (by decide), by decide, Nat.le_of_ble_eq_true rfl, fun _ => ⟨rfl, rfl⟩⟩
theorem zC_9_94 : zCok 9 94 qX9_ofCrew := ⟨⟨zr_12 _ (List.mem_of_getElem? (i := 11) rfl), zr_12 _ (List.mem_of_getElem? (i := 8) rfl), rfl, zr_1 _ (List.mem_of_getElem? (i := 5) rfl), by decide +kernel, by decide +kernel, by decide +kernel⟩, fun _ => ⟨zr_12 _ (List.mem_of_getElem? (i := 9) rfl), zr_12 _ (List.mem_of_getElem? (i := 10) rfl)⟩, fun h => absurd h (by decide), fun h => absurd h (by decide), by decide, Nat.le_of_ble_eq_true rfl, fun _ => ⟨rfl, rfl⟩⟩
theorem zC_10_37 : zCok 10 37 qX8_setRule := ⟨⟨zr_12 _ (List.mem_of_getElem? (i := 15) rfl), zr_12 _ (List.mem_of_getElem? (i := 12) rfl), rfl, zr_1 _ (List.mem_of_getElem? (i := 2) rfl), by decide +kernel, by decide +kernel, by decide +kernel⟩, fun _ => ⟨zr_12 _ (List.mem_of_getElem? (i := 13) rfl), zr_12 _ (List.mem_of_getElem? (i := 14) rfl)⟩, fun h => absurd h (by decide), fun h => absurd h (by decide), by decide, Nat.le_of_ble_eq_true rfl, fun _ => ⟨rfl, rfl⟩⟩
theorem zC_8_123 : zCok 8 123 qX8_changeRule := ⟨⟨zr_12 _ (List.mem_of_getElem? (i := 19) rfl), zr_12 _ (List.mem_of_getElem? (i := 16) rfl), rfl, zr_1 _ (List.mem_of_getElem? (i := 2) rfl), by decide +kernel, by decide +kernel, by decide +kernel⟩, fun _ => ⟨zr_12 _ (List.mem_of_getElem? (i := 17) rfl), zr_12 _ (List.mem_of_getElem? (i := 18) rfl)⟩, fun h => absurd h (by decide), fun h => absurd h (by decide), by decide, Nat.le_of_ble_eq_true rfl, fun _ => ⟨rfl, rfl⟩⟩
theorem zC_10_40 : zCok 10 40 qX9_setRule := ⟨⟨zr_13 _ (List.mem_of_getElem? (i := 2) rfl), zr_12 _ (List.mem_of_getElem? (i := 23) rfl), rfl, zr_1 _ (List.mem_of_getElem? (i := 5) rfl), by decide +kernel, by decide +kernel, by decide +kernel⟩, fun _ => ⟨zr_13 _ (List.mem_of_getElem? (i := 0) rfl), zr_13 _ (List.mem_of_getElem? (i := 1) rfl)⟩, fun h => absurd h (by decide), fun h => absurd h (by decide), by decide, Nat.le_of_ble_eq_true rfl, fun _ => ⟨rfl, rfl⟩⟩
theorem zC_10_41 : zCok 10 41 qX8_rule := ⟨⟨zr_13 _ (List.mem_of_getElem? (i := 8) rfl), zr_13 _ (List.mem_of_getElem? (i := 5) rfl), rfl, zr_1 _ (List.mem_of_getElem? (i := 2) rfl), by decide +kernel, by decide +kernel, by decide +kernel⟩, fun _ => ⟨zr_13 _ (List.mem_of_getElem? (i := 6) rfl), zr_13 _ (List.mem_of_getElem? (i := 7) rfl)⟩, fun h => absurd h (by decide), fun h => absurd h (by decide), by decide, Nat.le_of_ble_eq_true rfl, fun _ => ⟨rfl, rfl⟩⟩
theorem zC_10_44 : zCok 10 44 qX9_rule := ⟨⟨zr_13 _ (List.mem_of_getElem? (i := 12) rfl), zr_13 _ (List.mem_of_getElem? (i := 9) rfl), rfl, zr_1 _ (List.mem_of_getElem? (i := 5) rfl), by decide +kernel, by decide +kernel, by decide +kernel⟩, fun _ => ⟨zr_13 _ (List.mem_of_getElem? (i := 10) rfl), zr_13 _ (List.mem_of_getElem? (i := 11) rfl)⟩, fun h => absurd h (by decide), fun h => absurd h (by decide), by decide, Nat.le_of_ble_eq_true rfl, fun _ => ⟨rfl, rfl⟩⟩
theorem zC_10_45 : zCok 10 45 qX8_fly := ⟨⟨zr_13 _ (List.mem_of_getElem? (i := 16) rfl), zr_13 _ (List.mem_of_getElem? (i := 13) rfl), rfl, zr_1 _ (List.mem_of_getElem? (i := 2) rfl), by decide +kernel, by decide +kernel, by decide +kernel⟩, fun _ => ⟨zr_13 _ (List.mem_of_getElem? (i := 14) rfl), zr_13 _ (List.mem_of_getElem? (i := 15) rfl)⟩, fun h => absurd h (by decide), fun h => absurd h (by decide), by decide, Nat.le_of_ble_eq_true rfl, fun _ => ⟨rfl, rfl⟩⟩
theorem zC_8_134 : zCok 8 134 qX8_take := ⟨⟨zr_13 _ (List.mem_of_getElem? (i := 20) rfl), zr_13 _ (List.mem_of_getElem? (i := 17) rfl), rfl, zr_1 _ (List.mem_of_getElem? (i := 2) rfl), by decide +kernel, by decide +kernel, by decide +kernel⟩, fun _ => ⟨zr_13 _ (List.mem_of_getElem? (i := 18) rfl), zr_13 _ (List.mem_of_getElem? (i := 19) rfl)⟩, fun h => absurd h (by decide), fun h => absurd h (by decide), by decide, Nat.le_of_ble_eq_true rfl, fun _ => ⟨rfl, rfl⟩⟩
theorem zC_8_141 : zCok 8 141 qX3_hasCrew := ⟨⟨zr_14 _ (List.mem_of_getElem? (i := 1) rfl), zr_13 _ (List.mem_of_getElem? (i := 22) rfl), rfl, zr_1 _ (List.mem_of_getElem? (i := 14) rfl), by decide +kernel, by decide +kernel, by decide +kernel⟩, fun _ => ⟨zr_13 _ (List.mem_of_getElem? (i := 23) rfl), zr_14 _ (List.mem_of_getElem? (i := 0) rfl)⟩, fun h => absurd h (by decide), fun h => absurd h (by decide), by decide, Nat.le_of_ble_eq_true rfl, fun _ => ⟨rfl, rfl⟩⟩
theorem zC_8_144 : zCok 8 144 qX8_reasonAgainst := ⟨⟨zr_14 _ (List.mem_of_getElem? (i := 5) rfl), zr_14 _ (List.mem_of_getElem? (i := 2) rfl), rfl, zr_1 _ (List.mem_of_getElem? (i := 2) rfl), by decide +kernel, by decide +kernel, by decide +kernel⟩, fun _ => ⟨zr_14 _ (List.mem_of_getElem? (i := 3) rfl), zr_14 _ (List.mem_of_getElem? (i := 4) rfl)⟩, fun h => absurd h (by decide), fun h => absurd h (by decide), by decide, Nat.le_of_ble_eq_true rfl, fun _ => ⟨rfl, rfl⟩⟩
theorem zC_8_150 : zCok 8 150 qX6_load := ⟨⟨zr_14 _ (List.mem_of_getElem? (i := 10) rfl), zr_14 _ (List.mem_of_getElem? (i := 7) rfl), rfl, zr_2 _ (List.mem_of_getElem? (i := 1) rfl), by decide +kernel, by decide +kernel, by decide +kernel⟩, fun _ => ⟨zr_14 _ (List.mem_of_getElem? (i := 8) rfl), zr_14 _ (List.mem_of_getElem? (i := 9) rfl)⟩, fun h => absurd h (by decide), fun h => absurd h (by decide), by decide, Nat.le_of_ble_eq_true rfl, fun _ => ⟨rfl, rfl⟩⟩
theorem zC_6_69 : zCok 6 69 qX6_append := ⟨⟨zr_14 _ (List.mem_of_getElem? (i := 21) rfl), zr_14 _ (List.mem_of_getElem? (i := 18) rfl), rfl, zr_2 _ (List.mem_of_getElem? (i := 1) rfl), by decide +kernel, by decide +kernel, by decide +kernel⟩, fun _ => ⟨zr_14 _ (List.mem_of_getElem? (i := 19) rfl), zr_14 _ (List.mem_of_getElem? (i := 20) rfl)⟩, fun h => absurd h (by decide), fun h => absurd h (by decide), by decide, Nat.le_of_ble_eq_true rfl, fun _ => ⟨rfl, rfl⟩⟩
theorem zC_8_182 : zCok 8 182 qX6_findViolations := ⟨⟨zr_15 _ (List.mem_of_getElem? (i := 4) rfl), zr_15 _ (List.mem_of_getElem? (i := 1) rfl), rfl, zr_2 _ (List.mem_of_getElem? (i := 1) rfl), by decide +kernel, by decide +kernel, by decide +kernel⟩, fun _ => ⟨zr_15 _ (List.mem_of_getElem? (i := 2) rfl), zr_15 _ (List.mem_of_getElem? (i := 3) rfl)⟩, fun h => absurd h (by decide), fun h => absurd h (by decide), by decide, Nat.le_of_ble_eq_true rfl, fun _ => ⟨rfl, rfl⟩⟩
theorem zC_6_105 : zCok 6 105 qX6_overfillsWindow := ⟨⟨zr_15 _ (List.mem_of_getElem? (i := 9) rfl), zr_15 _ (List.mem_of_getElem? (i := 6) rfl), rfl, zr_2 _ (List.mem_of_getElem? (i := 1) rfl), by decide +kernel, by decide +kernel, by decide +kernel⟩, fun _ => ⟨zr_15 _ (List.mem_of_getElem? (i := 7) rfl), zr_15 _ (List.mem_of_getElem? (i := 8) rfl)⟩, fun h => absurd h (by decide), fun h => absurd h (by decide), by decide, Nat.le_of_ble_eq_true rfl, fun _ => ⟨rfl, rfl⟩⟩
theorem zC_6_98 : zCok 6 98 qX6_flownWithin := ⟨⟨zr_15 _ (List.mem_of_getElem? (i := 13) rfl), zr_15 _ (List.mem_of_getElem? (i := 10) rfl), rfl, zr_2 _ (List.mem_of_getElem? (i := 1) rfl), by decide +kernel, by decide +kernel, by decide +kernel⟩, fun _ => ⟨zr_15 _ (List.mem_of_getElem? (i := 11) rfl), zr_15 _ (List.mem_of_getElem? (i := 12) rfl)⟩, fun h => absurd h (by decide), fun h => absurd h (by decide), by decide, Nat.le_of_ble_eq_true rfl, fun _ => ⟨rfl, rfl⟩⟩
theorem zC_6_109 : zCok 6 109 qX6_breaks := ⟨⟨zr_15 _ (List.mem_of_getElem? (i := 17) rfl), zr_15 _ (List.mem_of_getElem? (i := 14) rfl), rfl, zr_2 _ (List.mem_of_getElem? (i := 1) rfl), by decide +kernel, by decide +kernel, by decide +kernel⟩, fun _ => ⟨zr_15 _ (List.mem_of_getElem? (i := 15) rfl), zr_15 _ (List.mem_of_getElem? (i := 16) rfl)⟩, fun h => absurd h (by decide), fun h => absurd h (by decide), by decide, Nat.le_of_ble_eq_true rfl, fun _ => ⟨rfl, rfl⟩⟩
theorem zC_6_92 : zCok 6 92 qX6_spanOf := ⟨⟨zr_15 _ (List.mem_of_getElem? (i := 23) rfl), zr_15 _ (List.mem_of_getElem? (i := 20) rfl), rfl, zr_2 _ (List.mem_of_getElem? (i := 1) rfl), by decide +kernel, by decide +kernel, by decide +kernel⟩, fun _ => ⟨zr_15 _ (List.mem_of_getElem? (i := 21) rfl), zr_15 _ (List.mem_of_getElem? (i := 22) rfl)⟩, fun h => absurd h (by decide), fun h => absurd h (by decide), by decide, Nat.le_of_ble_eq_true rfl, fun _ => ⟨rfl, rfl⟩⟩
theorem zC_6_95 : zCok 6 95 qX6_sizeOf := ⟨⟨zr_16 _ (List.mem_of_getElem? (i := 3) rfl), zr_16 _ (List.mem_of_getElem? (i := 0) rfl), rfl, zr_2 _ (List.mem_of_getElem? (i := 1) rfl), by decide +kernel, by decide +kernel, by decide +kernel⟩, fun _ => ⟨zr_16 _ (List.mem_of_getElem? (i := 1) rfl), zr_16 _ (List.mem_of_getElem? (i := 2) rfl)⟩, fun h => absurd h (by decide), fun h => absurd h (by decide), by decide, Nat.le_of_ble_eq_true rfl, fun _ => ⟨rfl, rfl⟩⟩
theorem zC_8_321 : zCok 8 321 qX6_positionOf := ⟨⟨zr_16 _ (List.mem_of_getElem? (i := 7) rfl), zr_16 _ (List.mem_of_getElem? (i := 4) rfl), rfl, zr_2 _ (List.mem_of_getElem? (i := 1) rfl), by decide +kernel, by decide +kernel, by decide +kernel⟩, fun _ => ⟨zr_16 _ (List.mem_of_getElem? (i := 5) rfl), zr_16 _ (List.mem_of_getElem? (i := 6) rfl)⟩, fun h => absurd h (by decide), fun h => absurd h (by decide), by decide, Nat.le_of_ble_eq_true rfl, fun _ => ⟨rfl, rfl⟩⟩
theorem zC_10_48 : zCok 10 48 qX9_fly := ⟨⟨zr_16 _ (List.mem_of_getElem? (i := 11) rfl), zr_16 _ (List.mem_of_getElem? (i := 8) rfl), rfl, zr_1 _ (List.mem_of_getElem? (i := 5) rfl), by decide +kernel, by decide +kernel, by decide +kernel⟩, fun _ => ⟨zr_16 _ (List.mem_of_getElem? (i := 9) rfl), zr_16 _ (List.mem_of_getElem? (i := 10) rfl)⟩, fun h => absurd h (by decide), fun h => absurd h (by decide), by decide, Nat.le_of_ble_eq_true rfl, fun _ => ⟨rfl, rfl⟩⟩
theorem zC_9_183 : zCok 9 183 qX9_assign := ⟨⟨zr_16 _ (List.mem_of_getElem? (i := 15) rfl), zr_16 _ (List.mem_of_getElem? (i := 12) rfl), rfl, zr_1 _ (List.mem_of_getElem? (i := 5) rfl), by decide +kernel, by decide +kernel, by decide +kernel⟩, fun _ => ⟨zr_16 _ (List.mem_of_getElem? (i := 13) rfl), zr_16 _ (List.mem_of_getElem? (i := 14) rfl)⟩, fun h => absurd h (by decide), fun h => absurd h (by decide), by decide, Nat.le_of_ble_eq_true rfl, fun _ => ⟨rfl, rfl⟩⟩
theorem zC_9_174 : zCok 9 174 qX9_isCrew := ⟨⟨zr_16 _ (List.mem_of_getElem? (i := 19) rfl), zr_16 _ (List.mem_of_getElem? (i := 16) rfl), rfl, zr_1 _ (List.mem_of_getElem? (i := 5) rfl), by decide +kernel, by decide +kernel, by decide +kernel⟩, fun _ => ⟨zr_16 _ (List.mem_of_getElem? (i := 17) rfl), zr_16 _ (List.mem_of_getElem? (i := 18) rfl)⟩, fun h => absurd h (by decide), fun h => absurd h (by decide), by decide, Nat.le_of_ble_eq_true rfl, fun _ => ⟨rfl, rfl⟩⟩
theorem zC_9_177 : zCok 9 177 qX9_hinders_ := ⟨⟨zr_16 _ (List.mem_of_getElem? (i := 23) rfl), zr_16 _ (List.mem_of_getElem? (i := 20) rfl), rfl, zr_1 _ (List.mem_of_getElem? (i := 5) rfl), by decide +kernel, by decide +kernel, by decide +kernel⟩, fun _ => ⟨zr_16 _ (List.mem_of_getElem? (i := 21) rfl), zr_16 _ (List.mem_of_getElem? (i := 22) rfl)⟩, fun h => absurd h (by decide), fun h => absurd h (by decide), by decide, Nat.le_of_ble_eq_true rfl, fun _ => ⟨rfl, rfl⟩⟩
theorem zC_9_165 : zCok 9 165 qX9_take := ⟨⟨zr_17 _ (List.mem_of_getElem? (i := 3) rfl), zr_17 _ (List.mem_of_getElem? (i := 0) rfl), rfl, zr_1 _ (List.mem_of_getElem? (i := 5) rfl), by decide +kernel, by decide +kernel, by decide +kernel⟩, fun _ => ⟨zr_17 _ (List.mem_of_getElem? (i := 1) rfl), zr_17 _ (List.mem_of_getElem? (i := 2) rfl)⟩, fun h => absurd h (by decide), fun h => absurd h (by decide), by decide, Nat.le_of_ble_eq_true rfl, fun _ => ⟨rfl, rfl⟩⟩
theorem zC_9_168 : zCok 9 168 qX9_hinders := ⟨⟨zr_17 _ (List.mem_of_getElem? (i := 9) rfl), zr_17 _ (List.mem_of_getElem? (i := 6) rfl), rfl, zr_1 _ (List.mem_of_getElem? (i := 5) rfl), by decide +kernel, by decide +kernel, by decide +kernel⟩, fun _ => ⟨zr_17 _ (List.mem_of_getElem? (i := 7) rfl), zr_17 _ (List.mem_of_getElem? (i := 8) rfl)⟩, fun h => absurd h (by decide), fun h => absurd h (by decide), by decide, Nat.le_of_ble_eq_true rfl, fun _ => ⟨rfl, rfl⟩⟩
theorem zC_9_120 : zCok 9 120 qX9_legAt := ⟨⟨zr_17 _ (List.mem_of_getElem? (i := 13) rfl), zr_17 _ (List.mem_of_getElem? (i := 10) rfl), rfl, zr_1 _ (List.mem_of_getElem? (i := 5) rfl), by decide +kernel, by decide +kernel, by decide +kernel⟩, fun _ => ⟨zr_17 _ (List.mem_of_getElem? (i := 11) rfl), zr_17 _ (List.mem_of_getElem? (i := 12) rfl)⟩, fun h => absurd h (by decide), fun h => absurd h (by decide), by decide, Nat.le_of_ble_eq_true rfl, fun _ => ⟨rfl, rfl⟩⟩
theorem zC_9_157 : zCok 9 157 qX9_put := ⟨⟨zr_17 _ (List.mem_of_getElem? (i := 17) rfl), zr_17 _ (List.mem_of_getElem? (i := 14) rfl), rfl, zr_1 _ (List.mem_of_getElem? (i := 5) rfl), by decide +kernel, by decide +kernel, by decide +kernel⟩, fun _ => ⟨zr_17 _ (List.mem_of_getElem? (i := 15) rfl), zr_17 _ (List.mem_of_getElem? (i := 16) rfl)⟩, fun h => absurd h (by decide), fun h => absurd h (by decide), by decide, Nat.le_of_ble_eq_true rfl, fun _ => ⟨rfl, rfl⟩⟩
theorem zC_9_154 : zCok 9 154 qX9_violationAt := ⟨⟨zr_17 _ (List.mem_of_getElem? (i := 21) rfl), zr_17 _ (List.mem_of_getElem? (i := 18) rfl), rfl, zr_1 _ (List.mem_of_getElem? (i := 5) rfl), by decide +kernel, by decide +kernel, by decide +kernel⟩, fun _ => ⟨zr_17 _ (List.mem_of_getElem? (i := 19) rfl), zr_17 _ (List.mem_of_getElem? (i := 20) rfl)⟩, fun h => absurd h (by decide), fun h => absurd h (by decide), by decide, Nat.le_of_ble_eq_true rfl, fun _ => ⟨rfl, rfl⟩⟩
theorem zC_9_150 : zCok 9 150 qX9_violates := ⟨⟨zr_18 _ (List.mem_of_getElem? (i := 1) rfl), zr_17 _ (List.mem_of_getElem? (i := 22) rfl), rfl, zr_1 _ (List.mem_of_getElem? (i := 5) rfl), by decide +kernel, by decide +kernel, by decide +kernel⟩, fun _ => ⟨zr_17 _ (List.mem_of_getElem? (i := 23) rfl), zr_18 _ (List.mem_of_getElem? (i := 0) rfl)⟩, fun h => absurd h (by decide), fun h => absurd h (by decide), by decide, Nat.le_of_ble_eq_true rfl, fun _ => ⟨rfl, rfl⟩⟩
theorem zC_9_123 : zCok 9 123 qX9_gapBefore := ⟨⟨zr_18 _ (List.mem_of_getElem? (i := 5) rfl), zr_18 _ (List.mem_of_getElem? (i := 2) rfl), rfl, zr_1 _ (List.mem_of_getElem? (i := 5) rfl), by decide +kernel, by decide +kernel, by decide +kernel⟩, fun _ => ⟨zr_18 _ (List.mem_of_getElem? (i := 3) rfl), zr_18 _ (List.mem_of_getElem? (i := 4) rfl)⟩, fun h => absurd h (by decide), fun h => absurd h (by decide), by decide, Nat.le_of_ble_eq_true rfl, fun _ => ⟨rfl, rfl⟩⟩
theorem zC_9_126 : zCok 9 126 qX9_beginsDuty := ⟨⟨zr_18 _ (List.mem_of_getElem? (i := 9) rfl), zr_18 _ (List.mem_of_getElem? (i := 6) rfl), rfl, zr_1 _ (List.mem_of_getElem? (i := 5) rfl), by decide +kernel, by decide +kernel, by decide +kernel⟩, fun _ => ⟨zr_18 _ (List.mem_of_getElem? (i := 7) rfl), zr_18 _ (List.mem_of_getElem? (i := 8) rfl)⟩, fun h => absurd h (by decide), fun h => absurd h (by decide), by decide, Nat.le_of_ble_eq_true rfl, fun _ => ⟨rfl, rfl⟩⟩
theorem zC_9_141 : zCok 9 141 qX9_dutyMinutes := ⟨⟨zr_18 _ (List.mem_of_getElem? (i := 13) rfl), zr_18 _ (List.mem_of_getElem? (i := 10) rfl), rfl, zr_1 _ (List.mem_of_getElem? (i := 5) rfl), by decide +kernel, by decide +kernel, by decide +kernel⟩, fun _ => ⟨zr_18 _ (List.mem_of_getElem? (i := 11) rfl), zr_18 _ (List.mem_of_getElem? (i := 12) rfl)⟩, fun h => absurd h (by decide), fun h => absurd h (by decide), by decide, Nat.le_of_ble_eq_true rfl, fun _ => ⟨rfl, rfl⟩⟩
theorem zC_9_129 : zCok 9 129 qX9_dutyEnd := ⟨⟨zr_18 _ (List.mem_of_getElem? (i := 17) rfl), zr_18 _ (List.mem_of_getElem? (i := 14) rfl), rfl, zr_1 _ (List.mem_of_getElem? (i := 5) rfl), by decide +kernel, by decide +kernel, by decide +kernel⟩, fun _ => ⟨zr_18 _ (List.mem_of_getElem? (i := 15) rfl), zr_18 _ (List.mem_of_getElem? (i := 16) rfl)⟩, fun h => absurd h (by decide), fun h => absurd h (by decide), by decide, Nat.le_of_ble_eq_true rfl, fun _ => ⟨rfl, rfl⟩⟩
theorem zC_9_144 : zCok 9 144 qX9_flownFrom := ⟨⟨zr_18 _ (List.mem_of_getElem? (i := 21) rfl), zr_18 _ (List.mem_of_getElem? (i := 18) rfl), rfl, zr_1 _ (List.mem_of_getElem? (i := 5) rfl), by decide +kernel, by decide +kernel, by decide +kernel⟩, fun _ => ⟨zr_18 _ (List.mem_of_getElem? (i := 19) rfl), zr_18 _ (List.mem_of_getElem? (i := 20) rfl)⟩, fun h => absurd h (by decide), fun h => absurd h (by decide), by decide, Nat.le_of_ble_eq_true rfl, fun _ => ⟨rfl, rfl⟩⟩
theorem zC_9_132 : zCok 9 132 qX9_isFlown := ⟨⟨zr_19 _ (List.mem_of_getElem? (i := 1) rfl), zr_18 _ (List.mem_of_getElem? (i := 22) rfl), rfl, zr_1 _ (List.mem_of_getElem? (i := 5) rfl), by decide +kernel, by decide +kernel, by decide +kernel⟩, fun _ => ⟨zr_18 _ (List.mem_of_getElem? (i := 23) rfl), zr_19 _ (List.mem_of_getElem? (i := 0) rfl)⟩, fun h => absurd h (by decide), fun h => absurd h (by decide), by decide, Nat.le_of_ble_eq_true rfl, fun _ => ⟨rfl, rfl⟩⟩
theorem zC_9_135 : zCok 9 135 qX9_lengthOf := ⟨⟨zr_19 _ (List.mem_of_getElem? (i := 5) rfl), zr_19 _ (List.mem_of_getElem? (i := 2) rfl), rfl, zr_1 _ (List.mem_of_getElem? (i := 5) rfl), by decide +kernel, by decide +kernel, by decide +kernel⟩, fun _ => ⟨zr_19 _ (List.mem_of_getElem? (i := 3) rfl), zr_19 _ (List.mem_of_getElem? (i := 4) rfl)⟩, fun h => absurd h (by decide), fun h => absurd h (by decide), by decide, Nat.le_of_ble_eq_true rfl, fun _ => ⟨rfl, rfl⟩⟩
theorem zC_9_147 : zCok 9 147 qX9_flownWithin := ⟨⟨zr_19 _ (List.mem_of_getElem? (i := 9) rfl), zr_19 _ (List.mem_of_getElem? (i := 6) rfl), rfl, zr_1 _ (List.mem_of_getElem? (i := 5) rfl), by decide +kernel, by decide +kernel, by decide +kernel⟩, fun _ => ⟨zr_19 _ (List.mem_of_getElem? (i := 7) rfl), zr_19 _ (List.mem_of_getElem? (i := 8) rfl)⟩, fun h => absurd h (by decide), fun h => absurd h (by decide), by decide, Nat.le_of_ble_eq_true rfl, fun _ => ⟨rfl, rfl⟩⟩
theorem zC_9_161 : zCok 9 161 qX9_takeOut := ⟨⟨zr_19 _ (List.mem_of_getElem? (i := 16) rfl), zr_19 _ (List.mem_of_getElem? (i := 13) rfl), rfl, zr_1 _ (List.mem_of_getElem? (i := 5) rfl), by decide +kernel, by decide +kernel, by decide +kernel⟩, fun _ => ⟨zr_19 _ (List.mem_of_getElem? (i := 14) rfl), zr_19 _ (List.mem_of_getElem? (i := 15) rfl)⟩, fun h => absurd h (by decide), fun h => absurd h (by decide), by decide, Nat.le_of_ble_eq_true rfl, fun _ => ⟨rfl, rfl⟩⟩
theorem zC_9_180 : zCok 9 180 qX9_enter := ⟨⟨zr_19 _ (List.mem_of_getElem? (i := 20) rfl), zr_19 _ (List.mem_of_getElem? (i := 17) rfl), rfl, zr_1 _ (List.mem_of_getElem? (i := 5) rfl), by decide +kernel, by decide +kernel, by decide +kernel⟩, fun _ => ⟨zr_19 _ (List.mem_of_getElem? (i := 18) rfl), zr_19 _ (List.mem_of_getElem? (i := 19) rfl)⟩, fun h => absurd h (by decide), fun h => absurd h (by decide), by decide, Nat.le_of_ble_eq_true rfl, fun _ => ⟨rfl, rfl⟩⟩
theorem zC_9_171 : zCok 9 171 qX9_give := ⟨⟨zr_20 _ (List.mem_of_getElem? (i := 0) rfl), zr_19 _ (List.mem_of_getElem? (i := 21) rfl), rfl, zr_1 _ (List.mem_of_getElem? (i := 5) rfl), by decide +kernel, by decide +kernel, by decide +kernel⟩, fun _ => ⟨zr_19 _ (List.mem_of_getElem? (i := 22) rfl), zr_19 _ (List.mem_of_getElem? (i := 23) rfl)⟩, fun h => absurd h (by decide), fun h => absurd h (by decide), by decide, Nat.le_of_ble_eq_true rfl, fun _ => ⟨rfl, rfl⟩⟩
theorem zC_10_49 : zCok 10 49 qX8_ride := ⟨⟨zr_20 _ (List.mem_of_getElem? (i := 4) rfl), zr_20 _ (List.mem_of_getElem? (i := 1) rfl), rfl, zr_1 _ (List.mem_of_getElem? (i := 2) rfl), by decide +kernel, by decide +kernel, by decide +kernel⟩, fun _ => ⟨zr_20 _ (List.mem_of_getElem? (i := 2) rfl), zr_20 _ (List.mem_of_getElem? (i := 3) rfl)⟩, fun h => absurd h (by decide), fun h => absurd h (by decide), by decide, Nat.le_of_ble_eq_true rfl, fun _ => ⟨rfl, rfl⟩⟩
theorem zC_10_52 : zCok 10 52 qX9_ride := ⟨⟨zr_20 _ (List.mem_of_getElem? (i := 8) rfl), zr_20 _ (List.mem_of_getElem? (i := 5) rfl), rfl, zr_1 _ (List.mem_of_getElem? (i := 5) rfl), by decide +kernel, by decide +kernel, by decide +kernel⟩, fun _ => ⟨zr_20 _ (List.mem_of_getElem? (i := 6) rfl), zr_20 _ (List.mem_of_getElem? (i := 7) rfl)⟩, fun h => absurd h (by decide), fun h => absurd h (by decide), by decide, Nat.le_of_ble_eq_true rfl, fun _ => ⟨rfl, rfl⟩⟩
theorem zC_10_53 : zCok 10 53 qX8_drop := ⟨⟨zr_20 _ (List.mem_of_getElem? (i := 12) rfl), zr_20 _ (List.mem_of_getElem? (i := 9) rfl), rfl, zr_1 _ (List.mem_of_getElem? (i := 2) rfl), by decide +kernel, by decide +kernel, by decide +kernel⟩, fun _ => ⟨zr_20 _ (List.mem_of_getElem? (i := 10) rfl), zr_20 _ (List.mem_of_getElem? (i := 11) rfl)⟩, fun h => absurd h (by decide), fun h => absurd h (by decide), by decide, Nat.le_of_ble_eq_true rfl, fun _ => ⟨rfl, rfl⟩⟩
theorem zC_8_138 : zCok 8 138 qX8_leave := ⟨⟨zr_20 _ (List.mem_of_getElem? (i := 16) rfl), zr_20 _ (List.mem_of_getElem? (i := 13) rfl), rfl, zr_1 _ (List.mem_of_getElem? (i := 2) rfl), by decide +kernel, by decide +kernel, by decide +kernel⟩, fun _ => ⟨zr_20 _ (List.mem_of_getElem? (i := 14) rfl), zr_20 _ (List.mem_of_getElem? (i := 15) rfl)⟩, fun h => absurd h (by decide), fun h => absurd h (by decide), by decide, Nat.le_of_ble_eq_true rfl, fun _ => ⟨rfl, rfl⟩⟩
theorem zC_10_56 : zCok 10 56 qX9_drop := ⟨⟨zr_20 _ (List.mem_of_getElem? (i := 21) rfl), zr_20 _ (List.mem_of_getElem? (i := 18) rfl), rfl, zr_1 _ (List.mem_of_getElem? (i := 5) rfl), by decide +kernel, by decide +kernel, by decide +kernel⟩, fun _ => ⟨zr_20 _ (List.mem_of_getElem? (i := 19) rfl), zr_20 _ (List.mem_of_getElem? (i := 20) rfl)⟩, fun h => absurd h (by decide), fun h => absurd h (by decide), by decide, Nat.le_of_ble_eq_true rfl, fun _ => ⟨rfl, rfl⟩⟩
theorem zC_10_57 : zCok 10 57 qX8_reason := ⟨⟨zr_21 _ (List.mem_of_getElem? (i := 1) rfl), zr_20 _ (List.mem_of_getElem? (i := 22) rfl), rfl, zr_1 _ (List.mem_of_getElem? (i := 2) rfl), by decide +kernel, by decide +kernel, by decide +kernel⟩, fun _ => ⟨zr_20 _ (List.mem_of_getElem? (i := 23) rfl), zr_21 _ (List.mem_of_getElem? (i := 0) rfl)⟩, fun h => absurd h (by decide), fun h => absurd h (by decide), by decide, Nat.le_of_ble_eq_true rfl, fun _ => ⟨rfl, rfl⟩⟩
theorem zC_10_61 : zCok 10 61 qX9_reason := ⟨⟨zr_21 _ (List.mem_of_getElem? (i := 5) rfl), zr_21 _ (List.mem_of_getElem? (i := 2) rfl), rfl, zr_1 _ (List.mem_of_getElem? (i := 5) rfl), by decide +kernel, by decide +kernel, by decide +kernel⟩, fun _ => ⟨zr_21 _ (List.mem_of_getElem? (i := 3) rfl), zr_21 _ (List.mem_of_getElem? (i := 4) rfl)⟩, fun h => absurd h (by decide), fun h => absurd h (by decide), by decide, Nat.le_of_ble_eq_true rfl, fun _ => ⟨rfl, rfl⟩⟩
theorem zC_10_62 : zCok 10 62 qX8_place := ⟨⟨zr_21 _ (List.mem_of_getElem? (i := 9) rfl), zr_21 _ (List.mem_of_getElem? (i := 6) rfl), rfl, zr_1 _ (List.mem_of_getElem? (i := 2) rfl), by decide +kernel, by decide +kernel, by decide +kernel⟩, fun _ => ⟨zr_21 _ (List.mem_of_getElem? (i := 7) rfl), zr_21 _ (List.mem_of_getElem? (i := 8) rfl)⟩, fun h => absurd h (by decide), fun h => absurd h (by decide), by decide, Nat.le_of_ble_eq_true rfl, fun _ => ⟨rfl, rfl⟩⟩
theorem zC_10_65 : zCok 10 65 qX9_place := ⟨⟨zr_21 _ (List.mem_of_getElem? (i := 14) rfl), zr_21 _ (List.mem_of_getElem? (i := 11) rfl), rfl, zr_1 _ (List.mem_of_getElem? (i := 5) rfl), by decide +kernel, by decide +kernel, by decide +kernel⟩, fun _ => ⟨zr_21 _ (List.mem_of_getElem? (i := 12) rfl), zr_21 _ (List.mem_of_getElem? (i := 13) rfl)⟩, fun h => absurd h (by decide), fun h => absurd h (by decide), by decide, Nat.le_of_ble_eq_true rfl, fun _ => ⟨rfl, rfl⟩⟩
theorem zC_10_66 : zCok 10 66 qX8_itemCount := ⟨⟨zr_21 _ (List.mem_of_getElem? (i := 18) rfl), zr_21 _ (List.mem_of_getElem? (i := 15) rfl), rfl, zr_1 _ (List.mem_of_getElem? (i := 2) rfl), by decide +kernel, by decide +kernel, by decide +kernel⟩, fun _ => ⟨zr_21 _ (List.mem_of_getElem? (i := 16) rfl), zr_21 _ (List.mem_of_getElem? (i := 17) rfl)⟩, fun h => absurd h (by decide), fun h => absurd h (by decide), by decide, Nat.le_of_ble_eq_true rfl, fun _ => ⟨rfl, rfl⟩⟩
theorem zC_10_69 : zCok 10 69 qX9_itemCount := ⟨⟨zr_21 _ (List.mem_of_getElem? (i := 22) rfl), zr_21 _ (List.mem_of_getElem? (i := 19) rfl), rfl, zr_1 _ (List.mem_of_getElem? (i := 5) rfl), by decide +kernel, by decide +kernel, by decide +kernel⟩, fun _ => ⟨zr_21 _ (List.mem_of_getElem? (i := 20) rfl), zr_21 _ (List.mem_of_getElem? (i := 21) rfl)⟩, fun h => absurd h (by decide), fun h => absurd h (by decide), by decide, Nat.le_of_ble_eq_true rfl, fun _ => ⟨rfl, rfl⟩⟩
theorem zC_10_70 : zCok 10 70 qX8_item := ⟨⟨zr_22 _ (List.mem_of_getElem? (i := 2) rfl), zr_21 _ (List.mem_of_getElem? (i := 23) rfl), rfl, zr_1 _ (List.mem_of_getElem? (i := 2) rfl), by decide +kernel, by decide +kernel, by decide +kernel⟩, fun _ => ⟨zr_22 _ (List.mem_of_getElem? (i := 0) rfl), zr_22 _ (List.mem_of_getElem? (i := 1) rfl)⟩, fun h => absurd h (by decide), fun h => absurd h (by decide), by decide, Nat.le_of_ble_eq_true rfl, fun _ => ⟨rfl, rfl⟩⟩
theorem zC_10_74 : zCok 10 74 qX9_item := ⟨⟨zr_22 _ (List.mem_of_getElem? (i := 9) rfl), zr_22 _ (List.mem_of_getElem? (i := 6) rfl), rfl, zr_1 _ (List.mem_of_getElem? (i := 5) rfl), by decide +kernel, by decide +kernel, by decide +kernel⟩, fun _ => ⟨zr_22 _ (List.mem_of_getElem? (i := 7) rfl), zr_22 _ (List.mem_of_getElem? (i := 8) rfl)⟩, fun h => absurd h (by decide), fun h => absurd h (by decide), by decide, Nat.le_of_ble_eq_true rfl, fun _ => ⟨rfl, rfl⟩⟩
theorem zC_9_186 : zCok 9 186 qX9_dutyOf := ⟨⟨zr_22 _ (List.mem_of_getElem? (i := 13) rfl), zr_22 _ (List.mem_of_getElem? (i := 10) rfl), rfl, zr_1 _ (List.mem_of_getElem? (i := 5) rfl), by decide +kernel, by decide +kernel, by decide +kernel⟩, fun _ => ⟨zr_22 _ (List.mem_of_getElem? (i := 11) rfl), zr_22 _ (List.mem_of_getElem? (i := 12) rfl)⟩, fun h => absurd h (by decide), fun h => absurd h (by decide), by decide, Nat.le_of_ble_eq_true rfl, fun _ => ⟨rfl, rfl⟩⟩
theorem zC_10_75 : zCok 10 75 qX8_dutyCount := ⟨⟨zr_22 _ (List.mem_of_getElem? (i := 17) rfl), zr_22 _ (List.mem_of_getElem? (i := 14) rfl), rfl, zr_1 _ (List.mem_of_getElem? (i := 2) rfl), by decide +kernel, by decide +kernel, by decide +kernel⟩, fun _ => ⟨zr_22 _ (List.mem_of_getElem? (i := 15) rfl), zr_22 _ (List.mem_of_getElem? (i := 16) rfl)⟩, fun h => absurd h (by decide), fun h => absurd h (by decide), by decide, Nat.le_of_ble_eq_true rfl, fun _ => ⟨rfl, rfl⟩⟩
theorem zC_10_78 : zCok 10 78 qX9_dutyCount := ⟨⟨zr_22 _ (List.mem_of_getElem? (i := 22) rfl), zr_22 _ (List.mem_of_getElem? (i := 19) rfl), rfl, zr_1 _ (List.mem_of_getElem? (i := 5) rfl), by decide +kernel, by decide +kernel, by decide +kernel⟩, fun _ => ⟨zr_22 _ (List.mem_of_getElem? (i := 20) rfl), zr_22 _ (List.mem_of_getElem? (i := 21) rfl)⟩, fun h => absurd h (by decide), fun h => absurd h (by decide), by decide, Nat.le_of_ble_eq_true rfl, fun _ => ⟨rfl, rfl⟩⟩
theorem zC_10_79 : zCok 10 79 qX8_duty := ⟨⟨zr_23 _ (List.mem_of_getElem? (i := 2) rfl), zr_22 _ (List.mem_of_getElem? (i := 23) rfl), rfl, zr_1 _ (List.mem_of_getElem? (i := 2) rfl), by decide +kernel, by decide +kernel, by decide +kernel⟩, fun _ => ⟨zr_23 _ (List.mem_of_getElem? (i := 0) rfl), zr_23 _ (List.mem_of_getElem? (i := 1) rfl)⟩, fun h => absurd h (by decide), fun h => absurd h (by decide), by decide, Nat.le_of_ble_eq_true rfl, fun _ => ⟨rfl, rfl⟩⟩
theorem zC_8_170 : zCok 8 170 qX6_spanOf := ⟨⟨zr_15 _ (List.mem_of_getElem? (i := 23) rfl), zr_23 _ (List.mem_of_getElem? (i := 5) rfl), rfl, zr_2 _ (List.mem_of_getElem? (i := 1) rfl), by decide +kernel, by decide +kernel, by decide +kernel⟩, fun _ => ⟨zr_15 _ (List.mem_of_getElem? (i := 21) rfl), zr_15 _ (List.mem_of_getElem? (i := 22) rfl)⟩, fun h => absurd h (by decide), fun h => absurd h (by decide), by decide, Nat.le_of_ble_eq_true rfl, fun _ => ⟨rfl, rfl⟩⟩
theorem zC_8_176 : zCok 8 176 qX6_sizeOf := ⟨⟨zr_16 _ (List.mem_of_getElem? (i := 3) rfl), zr_23 _ (List.mem_of_getElem? (i := 6) rfl), rfl, zr_2 _ (List.mem_of_getElem? (i := 1) rfl), by decide +kernel, by decide +kernel, by decide +kernel⟩, fun _ => ⟨zr_16 _ (List.mem_of_getElem? (i := 1) rfl), zr_16 _ (List.mem_of_getElem? (i := 2) rfl)⟩, fun h => absurd h (by decide), fun h => absurd h (by decide), by decide, Nat.le_of_ble_eq_true rfl, fun _ => ⟨rfl, rfl⟩⟩
theorem zC_10_82 : zCok 10 82 qX9_duty := ⟨⟨zr_23 _ (List.mem_of_getElem? (i := 10) rfl), zr_23 _ (List.mem_of_getElem? (i := 7) rfl), rfl, zr_1 _ (List.mem_of_getElem? (i := 5) rfl), by decide +kernel, by decide +kernel, by decide +kernel⟩, fun _ => ⟨zr_23 _ (List.mem_of_getElem? (i := 8) rfl), zr_23 _ (List.mem_of_getElem? (i := 9) rfl)⟩, fun h => absurd h (by decide), fun h => absurd h (by decide), by decide, Nat.le_of_ble_eq_true rfl, fun _ => ⟨rfl, rfl⟩⟩
theorem zC_10_83 : zCok 10 83 qX8_violationCount := ⟨⟨zr_23 _ (List.mem_of_getElem? (i := 14) rfl), zr_23 _ (List.mem_of_getElem? (i := 11) rfl), rfl, zr_1 _ (List.mem_of_getElem? (i := 2) rfl), by decide +kernel, by decide +kernel, by decide +kernel⟩, fun _ => ⟨zr_23 _ (List.mem_of_getElem? (i := 12) rfl), zr_23 _ (List.mem_of_getElem? (i := 13) rfl)⟩, fun h => absurd h (by decide), fun h => absurd h (by decide), by decide, Nat.le_of_ble_eq_true rfl, fun _ => ⟨rfl, rfl⟩⟩
theorem zC_10_86 : zCok 10 86 qX9_violationCount := ⟨⟨zr_23 _ (List.mem_of_getElem? (i := 18) rfl), zr_23 _ (List.mem_of_getElem? (i := 15) rfl), rfl, zr_1 _ (List.mem_of_getElem? (i := 5) rfl), by decide +kernel, by decide +kernel, by decide +kernel⟩, fun _ => ⟨zr_23 _ (List.mem_of_getElem? (i := 16) rfl), zr_23 _ (List.mem_of_getElem? (i := 17) rfl)⟩, fun h => absurd h (by decide), fun h => absurd h (by decide), by decide, Nat.le_of_ble_eq_true rfl, fun _ => ⟨rfl, rfl⟩⟩
theorem zC_9_189 : zCok 9 189 qX9_violations := ⟨⟨zr_23 _ (List.mem_of_getElem? (i := 22) rfl), zr_23 _ (List.mem_of_getElem? (i := 19) rfl), rfl, zr_1 _ (List.mem_of_getElem? (i := 5) rfl), by decide +kernel, by decide +kernel, by decide +kernel⟩, fun _ => ⟨zr_23 _ (List.mem_of_getElem? (i := 20) rfl), zr_23 _ (List.mem_of_getElem? (i := 21) rfl)⟩, fun h => absurd h (by decide), fun h => absurd h (by decide), by decide, Nat.le_of_ble_eq_true rfl, fun _ => ⟨rfl, rfl⟩⟩
theorem zC_10_87 : zCok 10 87 qX8_violation := ⟨⟨zr_24 _ (List.mem_of_getElem? (i := 2) rfl), zr_23 _ (List.mem_of_getElem? (i := 23) rfl), rfl, zr_1 _ (List.mem_of_getElem? (i := 2) rfl), by decide +kernel, by decide +kernel, by decide +kernel⟩, fun _ => ⟨zr_24 _ (List.mem_of_getElem? (i := 0) rfl), zr_24 _ (List.mem_of_getElem? (i := 1) rfl)⟩, fun h => absurd h (by decide), fun h => absurd h (by decide), by decide, Nat.le_of_ble_eq_true rfl, fun _ => ⟨rfl, rfl⟩⟩
theorem zC_10_90 : zCok 10 90 qX9_violation := ⟨⟨zr_24 _ (List.mem_of_getElem? (i := 6) rfl), zr_24 _ (List.mem_of_getElem? (i := 3) rfl), rfl, zr_1 _ (List.mem_of_getElem? (i := 5) rfl), by decide +kernel, by decide +kernel, by decide +kernel⟩, fun _ => ⟨zr_24 _ (List.mem_of_getElem? (i := 4) rfl), zr_24 _ (List.mem_of_getElem? (i := 5) rfl)⟩, fun h => absurd h (by decide), fun h => absurd h (by decide), by decide, Nat.le_of_ble_eq_true rfl, fun _ => ⟨rfl, rfl⟩⟩
theorem zC_10_91 : zCok 10 91 qX8_minutes := ⟨⟨zr_24 _ (List.mem_of_getElem? (i := 10) rfl), zr_24 _ (List.mem_of_getElem? (i := 7) rfl), rfl, zr_1 _ (List.mem_of_getElem? (i := 2) rfl), by decide +kernel, by decide +kernel, by decide +kernel⟩, fun _ => ⟨zr_24 _ (List.mem_of_getElem? (i := 8) rfl), zr_24 _ (List.mem_of_getElem? (i := 9) rfl)⟩, fun h => absurd h (by decide), fun h => absurd h (by decide), by decide, Nat.le_of_ble_eq_true rfl, fun _ => ⟨rfl, rfl⟩⟩
theorem zC_8_188 : zCok 8 188 qX3_minutesOf := ⟨⟨zr_24 _ (List.mem_of_getElem? (i := 14) rfl), zr_24 _ (List.mem_of_getElem? (i := 11) rfl), rfl, zr_1 _ (List.mem_of_getElem? (i := 14) rfl), by decide +kernel, by decide +kernel, by decide +kernel⟩, fun _ => ⟨zr_24 _ (List.mem_of_getElem? (i := 12) rfl), zr_24 _ (List.mem_of_getElem? (i := 13) rfl)⟩, fun h => absurd h (by decide), fun h => absurd h (by decide), by decide, Nat.le_of_ble_eq_true rfl, fun _ => ⟨rfl, rfl⟩⟩
theorem zC_3_67 : zCok 3 67 qX3_lengthOf := ⟨⟨zr_24 _ (List.mem_of_getElem? (i := 18) rfl), zr_24 _ (List.mem_of_getElem? (i := 15) rfl), rfl, zr_1 _ (List.mem_of_getElem? (i := 14) rfl), by decide +kernel, by decide +kernel, by decide +kernel⟩, fun _ => ⟨zr_24 _ (List.mem_of_getElem? (i := 16) rfl), zr_24 _ (List.mem_of_getElem? (i := 17) rfl)⟩, fun h => absurd h (by decide), fun h => absurd h (by decide), by decide, Nat.le_of_ble_eq_true rfl, fun _ => ⟨rfl, rfl⟩⟩
theorem zC_10_94 : zCok 10 94 qX9_minutes := ⟨⟨zr_24 _ (List.mem_of_getElem? (i := 22) rfl), zr_24 _ (List.mem_of_getElem? (i := 19) rfl), rfl, zr_1 _ (List.mem_of_getElem? (i := 5) rfl), by decide +kernel, by decide +kernel, by decide +kernel⟩, fun _ => ⟨zr_24 _ (List.mem_of_getElem? (i := 20) rfl), zr_24 _ (List.mem_of_getElem? (i := 21) rfl)⟩, fun h => absurd h (by decide), fun h => absurd h (by decide), by decide, Nat.le_of_ble_eq_true rfl, fun _ => ⟨rfl, rfl⟩⟩
theorem zC_9_193 : zCok 9 193 qX9_minutesOf := ⟨⟨zr_25 _ (List.mem_of_getElem? (i := 2) rfl), zr_24 _ (List.mem_of_getElem? (i := 23) rfl), rfl, zr_1 _ (List.mem_of_getElem? (i := 5) rfl), by decide +kernel, by decide +kernel, by decide +kernel⟩, fun _ => ⟨zr_25 _ (List.mem_of_getElem? (i := 0) rfl), zr_25 _ (List.mem_of_getElem? (i := 1) rfl)⟩, fun h => absurd h (by decide), fun h => absurd h (by decide), by decide, Nat.le_of_ble_eq_true rfl, fun _ => ⟨rfl, rfl⟩⟩
theorem zC_10_95 : zCok 10 95 qX8_within := ⟨⟨zr_25 _ (List.mem_of_getElem? (i := 6) rfl), zr_25 _ (List.mem_of_getElem? (i := 3) rfl), rfl, zr_1 _ (List.mem_of_getElem? (i := 2) rfl), by decide +kernel, by decide +kernel, by decide +kernel⟩, fun _ => ⟨zr_25 _ (List.mem_of_getElem? (i := 4) rfl), zr_25 _ (List.mem_of_getElem? (i := 5) rfl)⟩, fun h => absurd h (by decide), fun h => absurd h (by decide), by decide, Nat.le_of_ble_eq_true rfl, fun _ => ⟨rfl, rfl⟩⟩
theorem zC_8_191 : zCok 8 191 qX6_flownWithin := ⟨⟨zr_15 _ (List.mem_of_getElem? (i := 13) rfl), zr_25 _ (List.mem_of_getElem? (i := 7) rfl), rfl, zr_2 _ (List.mem_of_getElem? (i := 1) rfl), by decide +kernel, by decide +kernel, by decide +kernel⟩, fun _ => ⟨zr_15 _ (List.mem_of_getElem? (i := 11) rfl), zr_15 _ (List.mem_of_getElem? (i := 12) rfl)⟩, fun h => absurd h (by decide), fun h => absurd h (by decide), by decide, Nat.le_of_ble_eq_true rfl, fun _ => ⟨rfl, rfl⟩⟩
theorem zC_10_98 : zCok 10 98 qX9_within := ⟨⟨zr_25 _ (List.mem_of_getElem? (i := 11) rfl), zr_25 _ (List.mem_of_getElem? (i := 8) rfl), rfl, zr_1 _ (List.mem_of_getElem? (i := 5) rfl), by decide +kernel, by decide +kernel, by decide +kernel⟩, fun _ => ⟨zr_25 _ (List.mem_of_getElem? (i := 9) rfl), zr_25 _ (List.mem_of_getElem? (i := 10) rfl)⟩, fun h => absurd h (by decide), fun h => absurd h (by decide), by decide, Nat.le_of_ble_eq_true rfl, fun _ => ⟨rfl, rfl⟩⟩
theorem zC_10_99 : zCok 10 99 qX8_home := ⟨⟨zr_25 _ (List.mem_of_getElem? (i := 15) rfl), zr_25 _ (List.mem_of_getElem? (i := 12) rfl), rfl, zr_1 _ (List.mem_of_getElem? (i := 2) rfl), by decide +kernel, by decide +kernel, by decide +kernel⟩, fun _ => ⟨zr_25 _ (List.mem_of_getElem? (i := 13) rfl), zr_25 _ (List.mem_of_getElem? (i := 14) rfl)⟩, fun h => absurd h (by decide), fun h => absurd h (by decide), by decide, Nat.le_of_ble_eq_true rfl, fun _ => ⟨rfl, rfl⟩⟩
theorem zC_8_194 : zCok 8 194 qX6_isHome := ⟨⟨zr_25 _ (List.mem_of_getElem? (i := 19) rfl), zr_25 _ (List.mem_of_getElem? (i := 16) rfl), rfl, zr_2 _ (List.mem_of_getElem? (i := 1) rfl), by decide +kernel, by decide +kernel, by decide +kernel⟩, fun _ => ⟨zr_25 _ (List.mem_of_getElem? (i := 17) rfl), zr_25 _ (List.mem_of_getElem? (i := 18) rfl)⟩, fun h => absurd h (by decide), fun h => absurd h (by decide), by decide, Nat.le_of_ble_eq_true rfl, fun _ => ⟨rfl, rfl⟩⟩
theorem zC_10_102 : zCok 10 102 qX9_home := ⟨⟨zr_25 _ (List.mem_of_getElem? (i := 23) rfl), zr_25 _ (List.mem_of_getElem? (i := 20) rfl), rfl, zr_1 _ (List.mem_of_getElem? (i := 5) rfl), by decide +kernel, by decide +kernel, by decide +kernel⟩, fun _ => ⟨zr_25 _ (List.mem_of_getElem? (i := 21) rfl), zr_25 _ (List.mem_of_getElem? (i := 22) rfl)⟩, fun h => absurd h (by decide), fun h => absurd h (by decide), by decide, Nat.le_of_ble_eq_true rfl, fun _ => ⟨rfl, rfl⟩⟩
theorem zC_9_196 : zCok 9 196 qX9_isHome := ⟨⟨zr_26 _ (List.mem_of_getElem? (i := 3) rfl), zr_26 _ (List.mem_of_getElem? (i := 0) rfl), rfl, zr_1 _ (List.mem_of_getElem? (i := 5) rfl), by decide +kernel, by decide +kernel, by decide +kernel⟩, fun _ => ⟨zr_26 _ (List.mem_of_getElem? (i := 1) rfl), zr_26 _ (List.mem_of_getElem? (i := 2) rfl)⟩, fun h => absurd h (by decide), fun h => absurd h (by decide), by decide, Nat.le_of_ble_eq_true rfl, fun _ => ⟨rfl, rfl⟩⟩
theorem zC_10_103 : zCok 10 103 qX8_pairings := ⟨⟨zr_26 _ (List.mem_of_getElem? (i := 7) rfl), zr_26 _ (List.mem_of_getElem? (i := 4) rfl), rfl, zr_1 _ (List.mem_of_getElem? (i := 2) rfl), by decide +kernel, by decide +kernel, by decide +kernel⟩, fun _ => ⟨zr_26 _ (List.mem_of_getElem? (i := 5) rfl), zr_26 _ (List.mem_of_getElem? (i := 6) rfl)⟩, fun h => absurd h (by decide), fun h => absurd h (by decide), by decide, Nat.le_of_ble_eq_true rfl, fun _ => ⟨rfl, rfl⟩⟩
theorem zC_8_198 : zCok 8 198 qX6_pairingCount := ⟨⟨zr_26 _ (List.mem_of_getElem? (i := 11) rfl), zr_26 _ (List.mem_of_getElem? (i := 8) rfl), rfl, zr_2 _ (List.mem_of_getElem? (i := 1) rfl), by decide +kernel, by decide +kernel, by decide +kernel⟩, fun _ => ⟨zr_26 _ (List.mem_of_getElem? (i := 9) rfl), zr_26 _ (List.mem_of_getElem? (i := 10) rfl)⟩, fun h => absurd h (by decide), fun h => absurd h (by decide), by decide, Nat.le_of_ble_eq_true rfl, fun _ => ⟨rfl, rfl⟩⟩
theorem zC_6_113 : zCok 6 113 qX6_endsAtBase := ⟨⟨zr_26 _ (List.mem_of_getElem? (i := 15) rfl), zr_26 _ (List.mem_of_getElem? (i := 12) rfl), rfl, zr_2 _ (List.mem_of_getElem? (i := 1) rfl), by decide +kernel, by decide +kernel, by decide +kernel⟩, fun _ => ⟨zr_26 _ (List.mem_of_getElem? (i := 13) rfl), zr_26 _ (List.mem_of_getElem? (i := 14) rfl)⟩, fun h => absurd h (by decide), fun h => absurd h (by decide), by decide, Nat.le_of_ble_eq_true rfl, fun _ => ⟨rfl, rfl⟩⟩
theorem zC_10_106 : zCok 10 106 qX9_pairings := ⟨⟨zr_26 _ (List.mem_of_getElem? (i := 19) rfl), zr_26 _ (List.mem_of_getElem? (i := 16) rfl), rfl, zr_1 _ (List.mem_of_getElem? (i := 5) rfl), by decide +kernel, by decide +kernel, by decide +kernel⟩, fun _ => ⟨zr_26 _ (List.mem_of_getElem? (i := 17) rfl), zr_26 _ (List.mem_of_getElem? (i := 18) rfl)⟩, fun h => absurd h (by decide), fun h => absurd h (by decide), by decide, Nat.le_of_ble_eq_true rfl, fun _ => ⟨rfl, rfl⟩⟩
theorem zC_10_107 : zCok 10 107 qX8_cost := ⟨⟨zr_26 _ (List.mem_of_getElem? (i := 23) rfl), zr_26 _ (List.mem_of_getElem? (i := 20) rfl), rfl, zr_1 _ (List.mem_of_getElem? (i := 2) rfl), by decide +kernel, by decide +kernel, by decide +kernel⟩, fun _ => ⟨zr_26 _ (List.mem_of_getElem? (i := 21) rfl), zr_26 _ (List.mem_of_getElem? (i := 22) rfl)⟩, fun h => absurd h (by decide), fun h => absurd h (by decide), by decide, Nat.le_of_ble_eq_true rfl, fun _ => ⟨rfl, rfl⟩⟩
theorem zC_8_202 : zCok 8 202 qX8_costOf := ⟨⟨zr_27 _ (List.mem_of_getElem? (i := 3) rfl), zr_27 _ (List.mem_of_getElem? (i := 0) rfl), rfl, zr_1 _ (List.mem_of_getElem? (i := 2) rfl), by decide +kernel, by decide +kernel, by decide +kernel⟩, fun _ => ⟨zr_27 _ (List.mem_of_getElem? (i := 1) rfl), zr_27 _ (List.mem_of_getElem? (i := 2) rfl)⟩, fun h => absurd h (by decide), fun h => absurd h (by decide), by decide, Nat.le_of_ble_eq_true rfl, fun _ => ⟨rfl, rfl⟩⟩
theorem zC_8_324 : zCok 8 324 qX6_rideMinutes := ⟨⟨zr_27 _ (List.mem_of_getElem? (i := 7) rfl), zr_27 _ (List.mem_of_getElem? (i := 4) rfl), rfl, zr_2 _ (List.mem_of_getElem? (i := 1) rfl), by decide +kernel, by decide +kernel, by decide +kernel⟩, fun _ => ⟨zr_27 _ (List.mem_of_getElem? (i := 5) rfl), zr_27 _ (List.mem_of_getElem? (i := 6) rfl)⟩, fun h => absurd h (by decide), fun h => absurd h (by decide), by decide, Nat.le_of_ble_eq_true rfl, fun _ => ⟨rfl, rfl⟩⟩
theorem zC_6_82 : zCok 6 82 qX3_lengthOf := ⟨⟨zr_24 _ (List.mem_of_getElem? (i := 18) rfl), zr_27 _ (List.mem_of_getElem? (i := 8) rfl), rfl, zr_1 _ (List.mem_of_getElem? (i := 14) rfl), by decide +kernel, by decide +kernel, by decide +kernel⟩, fun _ => ⟨zr_24 _ (List.mem_of_getElem? (i := 16) rfl), zr_24 _ (List.mem_of_getElem? (i := 17) rfl)⟩, fun h => absurd h (by decide), fun h => absurd h (by decide), by decide, Nat.le_of_ble_eq_true rfl, fun _ => ⟨rfl, rfl⟩⟩
theorem zC_8_327 : zCok 8 327 qX6_nightCount := ⟨⟨zr_27 _ (List.mem_of_getElem? (i := 12) rfl), zr_27 _ (List.mem_of_getElem? (i := 9) rfl), rfl, zr_2 _ (List.mem_of_getElem? (i := 1) rfl), by decide +kernel, by decide +kernel, by decide +kernel⟩, fun _ => ⟨zr_27 _ (List.mem_of_getElem? (i := 10) rfl), zr_27 _ (List.mem_of_getElem? (i := 11) rfl)⟩, fun h => absurd h (by decide), fun h => absurd h (by decide), by decide, Nat.le_of_ble_eq_true rfl, fun _ => ⟨rfl, rfl⟩⟩
theorem zC_10_110 : zCok 10 110 qX9_cost := ⟨⟨zr_27 _ (List.mem_of_getElem? (i := 16) rfl), zr_27 _ (List.mem_of_getElem? (i := 13) rfl), rfl, zr_1 _ (List.mem_of_getElem? (i := 5) rfl), by decide +kernel, by decide +kernel, by decide +kernel⟩, fun _ => ⟨zr_27 _ (List.mem_of_getElem? (i := 14) rfl), zr_27 _ (List.mem_of_getElem? (i := 15) rfl)⟩, fun h => absurd h (by decide), fun h => absurd h (by decide), by decide, Nat.le_of_ble_eq_true rfl, fun _ => ⟨rfl, rfl⟩⟩
theorem zC_9_200 : zCok 9 200 qX9_costOf := ⟨⟨zr_27 _ (List.mem_of_getElem? (i := 20) rfl), zr_27 _ (List.mem_of_getElem? (i := 17) rfl), rfl, zr_1 _ (List.mem_of_getElem? (i := 5) rfl), by decide +kernel, by decide +kernel, by decide +kernel⟩, fun _ => ⟨zr_27 _ (List.mem_of_getElem? (i := 18) rfl), zr_27 _ (List.mem_of_getElem? (i := 19) rfl)⟩, fun h => absurd h (by decide), fun h => absurd h (by decide), by decide, Nat.le_of_ble_eq_true rfl, fun _ => ⟨rfl, rfl⟩⟩
theorem zC_10_111 : zCok 10 111 qX8_openCount := ⟨⟨zr_28 _ (List.mem_of_getElem? (i := 0) rfl), zr_27 _ (List.mem_of_getElem? (i := 21) rfl), rfl, zr_1 _ (List.mem_of_getElem? (i := 2) rfl), by decide +kernel, by decide +kernel, by decide +kernel⟩, fun _ => ⟨zr_27 _ (List.mem_of_getElem? (i := 22) rfl), zr_27 _ (List.mem_of_getElem? (i := 23) rfl)⟩, fun h => absurd h (by decide), fun h => absurd h (by decide), by decide, Nat.le_of_ble_eq_true rfl, fun _ => ⟨rfl, rfl⟩⟩
theorem zC_8_205 : zCok 8 205 qX3_isOpen := ⟨⟨zr_28 _ (List.mem_of_getElem? (i := 4) rfl), zr_28 _ (List.mem_of_getElem? (i := 1) rfl), rfl, zr_1 _ (List.mem_of_getElem? (i := 14) rfl), by decide +kernel, by decide +kernel, by decide +kernel⟩, fun _ => ⟨zr_28 _ (List.mem_of_getElem? (i := 2) rfl), zr_28 _ (List.mem_of_getElem? (i := 3) rfl)⟩, fun h => absurd h (by decide), fun h => absurd h (by decide), by decide, Nat.le_of_ble_eq_true rfl, fun _ => ⟨rfl, rfl⟩⟩
theorem zC_3_63 : zCok 3 63 qX3_flyerOf := ⟨⟨zr_11 _ (List.mem_of_getElem? (i := 15) rfl), zr_28 _ (List.mem_of_getElem? (i := 5) rfl), rfl, zr_1 _ (List.mem_of_getElem? (i := 14) rfl), by decide +kernel, by decide +kernel, by decide +kernel⟩, fun _ => ⟨zr_11 _ (List.mem_of_getElem? (i := 13) rfl), zr_11 _ (List.mem_of_getElem? (i := 14) rfl)⟩, fun h => absurd h (by decide), fun h => absurd h (by decide), by decide, Nat.le_of_ble_eq_true rfl, fun _ => ⟨rfl, rfl⟩⟩
theorem zC_10_114 : zCok 10 114 qX9_openCount := ⟨⟨zr_28 _ (List.mem_of_getElem? (i := 9) rfl), zr_28 _ (List.mem_of_getElem? (i := 6) rfl), rfl, zr_1 _ (List.mem_of_getElem? (i := 5) rfl), by decide +kernel, by decide +kernel, by decide +kernel⟩, fun _ => ⟨zr_28 _ (List.mem_of_getElem? (i := 7) rfl), zr_28 _ (List.mem_of_getElem? (i := 8) rfl)⟩, fun h => absurd h (by decide), fun h => absurd h (by decide), by decide, Nat.le_of_ble_eq_true rfl, fun _ => ⟨rfl, rfl⟩⟩
theorem zC_9_209 : zCok 9 209 qX9_findOpen := ⟨⟨zr_28 _ (List.mem_of_getElem? (i := 14) rfl), zr_28 _ (List.mem_of_getElem? (i := 11) rfl), rfl, zr_1 _ (List.mem_of_getElem? (i := 5) rfl), by decide +kernel, by decide +kernel, by decide +kernel⟩, fun _ => ⟨zr_28 _ (List.mem_of_getElem? (i := 12) rfl), zr_28 _ (List.mem_of_getElem? (i := 13) rfl)⟩, fun h => absurd h (by decide), fun h => absurd h (by decide), by decide, Nat.le_of_ble_eq_true rfl, fun _ => ⟨rfl, rfl⟩⟩
theorem zC_9_206 : zCok 9 206 qX9_isOpen := ⟨⟨zr_28 _ (List.mem_of_getElem? (i := 18) rfl), zr_28 _ (List.mem_of_getElem? (i := 15) rfl), rfl, zr_1 _ (List.mem_of_getElem? (i := 5) rfl), by decide +kernel, by decide +kernel, by decide +kernel⟩, fun _ => ⟨zr_28 _ (List.mem_of_getElem? (i := 16) rfl), zr_28 _ (List.mem_of_getElem? (i := 17) rfl)⟩, fun h => absurd h (by decide), fun h => absurd h (by decide), by decide, Nat.le_of_ble_eq_true rfl, fun _ => ⟨rfl, rfl⟩⟩
theorem zC_10_115 : zCok 10 115 qX8_open := ⟨⟨zr_28 _ (List.mem_of_getElem? (i := 22) rfl), zr_28 _ (List.mem_of_getElem? (i := 19) rfl), rfl, zr_1 _ (List.mem_of_getElem? (i := 2) rfl), by decide +kernel, by decide +kernel, by decide +kernel⟩, fun _ => ⟨zr_28 _ (List.mem_of_getElem? (i := 20) rfl), zr_28 _ (List.mem_of_getElem? (i := 21) rfl)⟩, fun h => absurd h (by decide), fun h => absurd h (by decide), by decide, Nat.le_of_ble_eq_true rfl, fun _ => ⟨rfl, rfl⟩⟩
theorem zC_10_118 : zCok 10 118 qX9_open := ⟨⟨zr_29 _ (List.mem_of_getElem? (i := 3) rfl), zr_29 _ (List.mem_of_getElem? (i := 0) rfl), rfl, zr_1 _ (List.mem_of_getElem? (i := 5) rfl), by decide +kernel, by decide +kernel, by decide +kernel⟩, fun _ => ⟨zr_29 _ (List.mem_of_getElem? (i := 1) rfl), zr_29 _ (List.mem_of_getElem? (i := 2) rfl)⟩, fun h => absurd h (by decide), fun h => absurd h (by decide), by decide, Nat.le_of_ble_eq_true rfl, fun _ => ⟨rfl, rfl⟩⟩
theorem zC_10_119 : zCok 10 119 qX8_delay := ⟨⟨zr_29 _ (List.mem_of_getElem? (i := 7) rfl), zr_29 _ (List.mem_of_getElem? (i := 4) rfl), rfl, zr_1 _ (List.mem_of_getElem? (i := 2) rfl), by decide +kernel, by decide +kernel, by decide +kernel⟩, fun _ => ⟨zr_29 _ (List.mem_of_getElem? (i := 5) rfl), zr_29 _ (List.mem_of_getElem? (i := 6) rfl)⟩, fun h => absurd h (by decide), fun h => absurd h (by decide), by decide, Nat.le_of_ble_eq_true rfl, fun _ => ⟨rfl, rfl⟩⟩
theorem zC_8_211 : zCok 8 211 qX8_shift := ⟨⟨zr_29 _ (List.mem_of_getElem? (i := 11) rfl), zr_29 _ (List.mem_of_getElem? (i := 8) rfl), rfl, zr_1 _ (List.mem_of_getElem? (i := 2) rfl), by decide +kernel, by decide +kernel, by decide +kernel⟩, fun _ => ⟨zr_29 _ (List.mem_of_getElem? (i := 9) rfl), zr_29 _ (List.mem_of_getElem? (i := 10) rfl)⟩, fun h => absurd h (by decide), fun h => absurd h (by decide), by decide, Nat.le_of_ble_eq_true rfl, fun _ => ⟨rfl, rfl⟩⟩
theorem zC_10_122 : zCok 10 122 qX9_delay := ⟨⟨zr_29 _ (List.mem_of_getElem? (i := 15) rfl), zr_29 _ (List.mem_of_getElem? (i := 12) rfl), rfl, zr_1 _ (List.mem_of_getElem? (i := 5) rfl), by decide +kernel, by decide +kernel, by decide +kernel⟩, fun _ => ⟨zr_29 _ (List.mem_of_getElem? (i := 13) rfl), zr_29 _ (List.mem_of_getElem? (i := 14) rfl)⟩, fun h => absurd h (by decide), fun h => absurd h (by decide), by decide, Nat.le_of_ble_eq_true rfl, fun _ => ⟨rfl, rfl⟩⟩
theorem zC_9_212 : zCok 9 212 qX9_reorder := ⟨⟨zr_29 _ (List.mem_of_getElem? (i := 19) rfl), zr_29 _ (List.mem_of_getElem? (i := 16) rfl), rfl, zr_1 _ (List.mem_of_getElem? (i := 5) rfl), by decide +kernel, by decide +kernel, by decide +kernel⟩, fun _ => ⟨zr_29 _ (List.mem_of_getElem? (i := 17) rfl), zr_29 _ (List.mem_of_getElem? (i := 18) rfl)⟩, fun h => absurd h (by decide), fun h => absurd h (by decide), by decide, Nat.le_of_ble_eq_true rfl, fun _ => ⟨rfl, rfl⟩⟩
theorem zC_10_123 : zCok 10 123 qX8_cancel := ⟨⟨zr_29 _ (List.mem_of_getElem? (i := 23) rfl), zr_29 _ (List.mem_of_getElem? (i := 20) rfl), rfl, zr_1 _ (List.mem_of_getElem? (i := 2) rfl), by decide +kernel, by decide +kernel, by decide +kernel⟩, fun _ => ⟨zr_29 _ (List.mem_of_getElem? (i := 21) rfl), zr_29 _ (List.mem_of_getElem? (i := 22) rfl)⟩, fun h => absurd h (by decide), fun h => absurd h (by decide), by decide, Nat.le_of_ble_eq_true rfl, fun _ => ⟨rfl, rfl⟩⟩
theorem zC_8_214 : zCok 8 214 qX8_strike := ⟨⟨zr_30 _ (List.mem_of_getElem? (i := 3) rfl), zr_30 _ (List.mem_of_getElem? (i := 0) rfl), rfl, zr_1 _ (List.mem_of_getElem? (i := 2) rfl), by decide +kernel, by decide +kernel, by decide +kernel⟩, fun _ => ⟨zr_30 _ (List.mem_of_getElem? (i := 1) rfl), zr_30 _ (List.mem_of_getElem? (i := 2) rfl)⟩, fun h => absurd h (by decide), fun h => absurd h (by decide), by decide, Nat.le_of_ble_eq_true rfl, fun _ => ⟨rfl, rfl⟩⟩
theorem zC_10_126 : zCok 10 126 qX9_cancel := ⟨⟨zr_30 _ (List.mem_of_getElem? (i := 7) rfl), zr_30 _ (List.mem_of_getElem? (i := 4) rfl), rfl, zr_1 _ (List.mem_of_getElem? (i := 5) rfl), by decide +kernel, by decide +kernel, by decide +kernel⟩, fun _ => ⟨zr_30 _ (List.mem_of_getElem? (i := 5) rfl), zr_30 _ (List.mem_of_getElem? (i := 6) rfl)⟩, fun h => absurd h (by decide), fun h => absurd h (by decide), by decide, Nat.le_of_ble_eq_true rfl, fun _ => ⟨rfl, rfl⟩⟩
theorem zC_10_127 : zCok 10 127 qX8_setReserve := ⟨⟨zr_30 _ (List.mem_of_getElem? (i := 11) rfl), zr_30 _ (List.mem_of_getElem? (i := 8) rfl), rfl, zr_1 _ (List.mem_of_getElem? (i := 2) rfl), by decide +kernel, by decide +kernel, by decide +kernel⟩, fun _ => ⟨zr_30 _ (List.mem_of_getElem? (i := 9) rfl), zr_30 _ (List.mem_of_getElem? (i := 10) rfl)⟩, fun h => absurd h (by decide), fun h => absurd h (by decide), by decide, Nat.le_of_ble_eq_true rfl, fun _ => ⟨rfl, rfl⟩⟩
theorem zC_8_217 : zCok 8 217 qX8_changeReserve := ⟨⟨zr_30 _ (List.mem_of_getElem? (i := 15) rfl), zr_30 _ (List.mem_of_getElem? (i := 12) rfl), rfl, zr_1 _ (List.mem_of_getElem? (i := 2) rfl), by decide +kernel, by decide +kernel, by decide +kernel⟩, fun _ => ⟨zr_30 _ (List.mem_of_getElem? (i := 13) rfl), zr_30 _ (List.mem_of_getElem? (i := 14) rfl)⟩, fun h => absurd h (by decide), fun h => absurd h (by decide), by decide, Nat.le_of_ble_eq_true rfl, fun _ => ⟨rfl, rfl⟩⟩
theorem zC_8_220 : zCok 8 220 qX3_isReserve := ⟨⟨zr_30 _ (List.mem_of_getElem? (i := 21) rfl), zr_30 _ (List.mem_of_getElem? (i := 18) rfl), rfl, zr_1 _ (List.mem_of_getElem? (i := 14) rfl), by decide +kernel, by decide +kernel, by decide +kernel⟩, fun _ => ⟨zr_30 _ (List.mem_of_getElem? (i := 19) rfl), zr_30 _ (List.mem_of_getElem? (i := 20) rfl)⟩, fun h => absurd h (by decide), fun h => absurd h (by decide), by decide, Nat.le_of_ble_eq_true rfl, fun _ => ⟨rfl, rfl⟩⟩
theorem zC_10_130 : zCok 10 130 qX9_setReserve := ⟨⟨zr_31 _ (List.mem_of_getElem? (i := 1) rfl), zr_30 _ (List.mem_of_getElem? (i := 22) rfl), rfl, zr_1 _ (List.mem_of_getElem? (i := 5) rfl), by decide +kernel, by decide +kernel, by decide +kernel⟩, fun _ => ⟨zr_30 _ (List.mem_of_getElem? (i := 23) rfl), zr_31 _ (List.mem_of_getElem? (i := 0) rfl)⟩, fun h => absurd h (by decide), fun h => absurd h (by decide), by decide, Nat.le_of_ble_eq_true rfl, fun _ => ⟨rfl, rfl⟩⟩
theorem zC_9_215 : zCok 9 215 qX9_isReserve := ⟨⟨zr_31 _ (List.mem_of_getElem? (i := 5) rfl), zr_31 _ (List.mem_of_getElem? (i := 2) rfl), rfl, zr_1 _ (List.mem_of_getElem? (i := 5) rfl), by decide +kernel, by decide +kernel, by decide +kernel⟩, fun _ => ⟨zr_31 _ (List.mem_of_getElem? (i := 3) rfl), zr_31 _ (List.mem_of_getElem? (i := 4) rfl)⟩, fun h => absurd h (by decide), fun h => absurd h (by decide), by decide, Nat.le_of_ble_eq_true rfl, fun _ => ⟨rfl, rfl⟩⟩
theorem zC_10_131 : zCok 10 131 qX8_reserve := ⟨⟨zr_31 _ (List.mem_of_getElem? (i := 9) rfl), zr_31 _ (List.mem_of_getElem? (i := 6) rfl), rfl, zr_1 _ (List.mem_of_getElem? (i := 2) rfl), by decide +kernel, by decide +kernel, by decide +kernel⟩, fun _ => ⟨zr_31 _ (List.mem_of_getElem? (i := 7) rfl), zr_31 _ (List.mem_of_getElem? (i := 8) rfl)⟩, fun h => absurd h (by decide), fun h => absurd h (by decide), by decide, Nat.le_of_ble_eq_true rfl, fun _ => ⟨rfl, rfl⟩⟩
theorem zC_10_134 : zCok 10 134 qX9_reserve := ⟨⟨zr_31 _ (List.mem_of_getElem? (i := 13) rfl), zr_31 _ (List.mem_of_getElem? (i := 10) rfl), rfl, zr_1 _ (List.mem_of_getElem? (i := 5) rfl), by decide +kernel, by decide +kernel, by decide +kernel⟩, fun _ => ⟨zr_31 _ (List.mem_of_getElem? (i := 11) rfl), zr_31 _ (List.mem_of_getElem? (i := 12) rfl)⟩, fun h => absurd h (by decide), fun h => absurd h (by decide), by decide, Nat.le_of_ble_eq_true rfl, fun _ => ⟨rfl, rfl⟩⟩
theorem zC_10_135 : zCok 10 135 qX8_called := ⟨⟨zr_31 _ (List.mem_of_getElem? (i := 17) rfl), zr_31 _ (List.mem_of_getElem? (i := 14) rfl), rfl, zr_1 _ (List.mem_of_getElem? (i := 2) rfl), by decide +kernel, by decide +kernel, by decide +kernel⟩, fun _ => ⟨zr_31 _ (List.mem_of_getElem? (i := 15) rfl), zr_31 _ (List.mem_of_getElem? (i := 16) rfl)⟩, fun h => absurd h (by decide), fun h => absurd h (by decide), by decide, Nat.le_of_ble_eq_true rfl, fun _ => ⟨rfl, rfl⟩⟩
theorem zC_8_229 : zCok 8 229 qX8_reserveFor := ⟨⟨zr_31 _ (List.mem_of_getElem? (i := 21) rfl), zr_31 _ (List.mem_of_getElem? (i := 18) rfl), rfl, zr_1 _ (List.mem_of_getElem? (i := 2) rfl), by decide +kernel, by decide +kernel, by decide +kernel⟩, fun _ => ⟨zr_31 _ (List.mem_of_getElem? (i := 19) rfl), zr_31 _ (List.mem_of_getElem? (i := 20) rfl)⟩, fun h => absurd h (by decide), fun h => absurd h (by decide), by decide, Nat.le_of_ble_eq_true rfl, fun _ => ⟨rfl, rfl⟩⟩
theorem zC_8_330 : zCok 8 330 qX3_isOnCall := ⟨⟨zr_32 _ (List.mem_of_getElem? (i := 1) rfl), zr_31 _ (List.mem_of_getElem? (i := 22) rfl), rfl, zr_1 _ (List.mem_of_getElem? (i := 14) rfl), by decide +kernel, by decide +kernel, by decide +kernel⟩, fun _ => ⟨zr_31 _ (List.mem_of_getElem? (i := 23) rfl), zr_32 _ (List.mem_of_getElem? (i := 0) rfl)⟩, fun h => absurd h (by decide), fun h => absurd h (by decide), by decide, Nat.le_of_ble_eq_true rfl, fun _ => ⟨rfl, rfl⟩⟩
theorem zC_3_70 : zCok 3 70 qX3_isReserve := ⟨⟨zr_30 _ (List.mem_of_getElem? (i := 21) rfl), zr_32 _ (List.mem_of_getElem? (i := 2) rfl), rfl, zr_1 _ (List.mem_of_getElem? (i := 14) rfl), by decide +kernel, by decide +kernel, by decide +kernel⟩, fun _ => ⟨zr_30 _ (List.mem_of_getElem? (i := 19) rfl), zr_30 _ (List.mem_of_getElem? (i := 20) rfl)⟩, fun h => absurd h (by decide), fun h => absurd h (by decide), by decide, Nat.le_of_ble_eq_true rfl, fun _ => ⟨rfl, rfl⟩⟩
theorem zC_10_138 : zCok 10 138 qX9_called := ⟨⟨zr_32 _ (List.mem_of_getElem? (i := 6) rfl), zr_32 _ (List.mem_of_getElem? (i := 3) rfl), rfl, zr_1 _ (List.mem_of_getElem? (i := 5) rfl), by decide +kernel, by decide +kernel, by decide +kernel⟩, fun _ => ⟨zr_32 _ (List.mem_of_getElem? (i := 4) rfl), zr_32 _ (List.mem_of_getElem? (i := 5) rfl)⟩, fun h => absurd h (by decide), fun h => absurd h (by decide), by decide, Nat.le_of_ble_eq_true rfl, fun _ => ⟨rfl, rfl⟩⟩
theorem zC_9_218 : zCok 9 218 qX9_calledFor := ⟨⟨zr_32 _ (List.mem_of_getElem? (i := 10) rfl), zr_32 _ (List.mem_of_getElem? (i := 7) rfl), rfl, zr_1 _ (List.mem_of_getElem? (i := 5) rfl), by decide +kernel, by decide +kernel, by decide +kernel⟩, fun _ => ⟨zr_32 _ (List.mem_of_getElem? (i := 8) rfl), zr_32 _ (List.mem_of_getElem? (i := 9) rfl)⟩, fun h => absurd h (by decide), fun h => absurd h (by decide), by decide, Nat.le_of_ble_eq_true rfl, fun _ => ⟨rfl, rfl⟩⟩
theorem zC_10_139 : zCok 10 139 qX8_pair := ⟨⟨zr_32 _ (List.mem_of_getElem? (i := 14) rfl), zr_32 _ (List.mem_of_getElem? (i := 11) rfl), rfl, zr_1 _ (List.mem_of_getElem? (i := 2) rfl), by decide +kernel, by decide +kernel, by decide +kernel⟩, fun _ => ⟨zr_32 _ (List.mem_of_getElem? (i := 12) rfl), zr_32 _ (List.mem_of_getElem? (i := 13) rfl)⟩, fun h => absurd h (by decide), fun h => absurd h (by decide), by decide, Nat.le_of_ble_eq_true rfl, fun _ => ⟨rfl, rfl⟩⟩
theorem zC_8_232 : zCok 8 232 qX8_pairOpenLegs := ⟨⟨zr_32 _ (List.mem_of_getElem? (i := 18) rfl), zr_32 _ (List.mem_of_getElem? (i := 15) rfl), rfl, zr_1 _ (List.mem_of_getElem? (i := 2) rfl), by decide +kernel, by decide +kernel, by decide +kernel⟩, fun _ => ⟨zr_32 _ (List.mem_of_getElem? (i := 16) rfl), zr_32 _ (List.mem_of_getElem? (i := 17) rfl)⟩, fun h => absurd h (by decide), fun h => absurd h (by decide), by decide, Nat.le_of_ble_eq_true rfl, fun _ => ⟨rfl, rfl⟩⟩
theorem zC_8_235 : zCok 8 235 qX8_findOffer := ⟨⟨zr_33 _ (List.mem_of_getElem? (i := 0) rfl), zr_32 _ (List.mem_of_getElem? (i := 21) rfl), rfl, zr_1 _ (List.mem_of_getElem? (i := 2) rfl), by decide +kernel, by decide +kernel, by decide +kernel⟩, fun _ => ⟨zr_32 _ (List.mem_of_getElem? (i := 22) rfl), zr_32 _ (List.mem_of_getElem? (i := 23) rfl)⟩, fun h => absurd h (by decide), fun h => absurd h (by decide), by decide, Nat.le_of_ble_eq_true rfl, fun _ => ⟨rfl, rfl⟩⟩
theorem zC_8_334 : zCok 8 334 qX2_isWorseThan := ⟨⟨zr_33 _ (List.mem_of_getElem? (i := 4) rfl), zr_33 _ (List.mem_of_getElem? (i := 1) rfl), rfl, zr_2 _ (List.mem_of_getElem? (i := 5) rfl), by decide +kernel, by decide +kernel, by decide +kernel⟩, fun _ => ⟨zr_33 _ (List.mem_of_getElem? (i := 2) rfl), zr_33 _ (List.mem_of_getElem? (i := 3) rfl)⟩, fun h => absurd h (by decide), fun h => absurd h (by decide), by decide, Nat.le_of_ble_eq_true rfl, fun _ => ⟨rfl, rfl⟩⟩
theorem zC_8_337 : zCok 8 337 qX2_set := ⟨⟨zr_33 _ (List.mem_of_getElem? (i := 10) rfl), zr_33 _ (List.mem_of_getElem? (i := 7) rfl), rfl, zr_2 _ (List.mem_of_getElem? (i := 5) rfl), by decide +kernel, by decide +kernel, by decide +kernel⟩, fun _ => ⟨zr_33 _ (List.mem_of_getElem? (i := 8) rfl), zr_33 _ (List.mem_of_getElem? (i := 9) rfl)⟩, fun h => absurd h (by decide), fun h => absurd h (by decide), by decide, Nat.le_of_ble_eq_true rfl, fun _ => ⟨rfl, rfl⟩⟩
theorem zC_8_341 : zCok 8 341 qX3_lengthOf := ⟨⟨zr_24 _ (List.mem_of_getElem? (i := 18) rfl), zr_33 _ (List.mem_of_getElem? (i := 11) rfl), rfl, zr_1 _ (List.mem_of_getElem? (i := 14) rfl), by decide +kernel, by decide +kernel, by decide +kernel⟩, fun _ => ⟨zr_24 _ (List.mem_of_getElem? (i := 16) rfl), zr_24 _ (List.mem_of_getElem? (i := 17) rfl)⟩, fun h => absurd h (by decide), fun h => absurd h (by decide), by decide, Nat.le_of_ble_eq_true rfl, fun _ => ⟨rfl, rfl⟩⟩
theorem zC_10_142 : zCok 10 142 qX9_pair := ⟨⟨zr_33 _ (List.mem_of_getElem? (i := 15) rfl), zr_33 _ (List.mem_of_getElem? (i := 12) rfl), rfl, zr_1 _ (List.mem_of_getElem? (i := 5) rfl), by decide +kernel, by decide +kernel, by decide +kernel⟩, fun _ => ⟨zr_33 _ (List.mem_of_getElem? (i := 13) rfl), zr_33 _ (List.mem_of_getElem? (i := 14) rfl)⟩, fun h => absurd h (by decide), fun h => absurd h (by decide), by decide, Nat.le_of_ble_eq_true rfl, fun _ => ⟨rfl, rfl⟩⟩
theorem zC_9_240 : zCok 9 240 qX9_findOffer := ⟨⟨zr_33 _ (List.mem_of_getElem? (i := 21) rfl), zr_33 _ (List.mem_of_getElem? (i := 18) rfl), rfl, zr_1 _ (List.mem_of_getElem? (i := 5) rfl), by decide +kernel, by decide +kernel, by decide +kernel⟩, fun _ => ⟨zr_33 _ (List.mem_of_getElem? (i := 19) rfl), zr_33 _ (List.mem_of_getElem? (i := 20) rfl)⟩, fun h => absurd h (by decide), fun h => absurd h (by decide), by decide, Nat.le_of_ble_eq_true rfl, fun _ => ⟨rfl, rfl⟩⟩
theorem zC_9_233 : zCok 9 233 qX9_consider := ⟨⟨zr_34 _ (List.mem_of_getElem? (i := 1) rfl), zr_33 _ (List.mem_of_getElem? (i := 22) rfl), rfl, zr_1 _ (List.mem_of_getElem? (i := 5) rfl), by decide +kernel, by decide +kernel, by decide +kernel⟩, fun _ => ⟨zr_33 _ (List.mem_of_getElem? (i := 23) rfl), zr_34 _ (List.mem_of_getElem? (i := 0) rfl)⟩, fun h => absurd h (by decide), fun h => absurd h (by decide), by decide, Nat.le_of_ble_eq_true rfl, fun _ => ⟨rfl, rfl⟩⟩
theorem zC_9_237 : zCok 9 237 qX9_isWay := ⟨⟨zr_34 _ (List.mem_of_getElem? (i := 7) rfl), zr_34 _ (List.mem_of_getElem? (i := 4) rfl), rfl, zr_1 _ (List.mem_of_getElem? (i := 5) rfl), by decide +kernel, by decide +kernel, by decide +kernel⟩, fun _ => ⟨zr_34 _ (List.mem_of_getElem? (i := 5) rfl), zr_34 _ (List.mem_of_getElem? (i := 6) rfl)⟩, fun h => absurd h (by decide), fun h => absurd h (by decide), by decide, Nat.le_of_ble_eq_true rfl, fun _ => ⟨rfl, rfl⟩⟩
theorem zC_10_143 : zCok 10 143 qX8_offer := ⟨⟨zr_34 _ (List.mem_of_getElem? (i := 11) rfl), zr_34 _ (List.mem_of_getElem? (i := 8) rfl), rfl, zr_1 _ (List.mem_of_getElem? (i := 2) rfl), by decide +kernel, by decide +kernel, by decide +kernel⟩, fun _ => ⟨zr_34 _ (List.mem_of_getElem? (i := 9) rfl), zr_34 _ (List.mem_of_getElem? (i := 10) rfl)⟩, fun h => absurd h (by decide), fun h => absurd h (by decide), by decide, Nat.le_of_ble_eq_true rfl, fun _ => ⟨rfl, rfl⟩⟩
theorem zC_10_146 : zCok 10 146 qX9_offer := ⟨⟨zr_34 _ (List.mem_of_getElem? (i := 16) rfl), zr_34 _ (List.mem_of_getElem? (i := 13) rfl), rfl, zr_1 _ (List.mem_of_getElem? (i := 5) rfl), by decide +kernel, by decide +kernel, by decide +kernel⟩, fun _ => ⟨zr_34 _ (List.mem_of_getElem? (i := 14) rfl), zr_34 _ (List.mem_of_getElem? (i := 15) rfl)⟩, fun h => absurd h (by decide), fun h => absurd h (by decide), by decide, Nat.le_of_ble_eq_true rfl, fun _ => ⟨rfl, rfl⟩⟩
theorem zC_10_147 : zCok 10 147 qX8_repair := ⟨⟨zr_34 _ (List.mem_of_getElem? (i := 20) rfl), zr_34 _ (List.mem_of_getElem? (i := 17) rfl), rfl, zr_1 _ (List.mem_of_getElem? (i := 2) rfl), by decide +kernel, by decide +kernel, by decide +kernel⟩, fun _ => ⟨zr_34 _ (List.mem_of_getElem? (i := 18) rfl), zr_34 _ (List.mem_of_getElem? (i := 19) rfl)⟩, fun h => absurd h (by decide), fun h => absurd h (by decide), by decide, Nat.le_of_ble_eq_true rfl, fun _ => ⟨rfl, rfl⟩⟩
theorem zC_8_247 : zCok 8 247 qX8_repairRows := ⟨⟨zr_35 _ (List.mem_of_getElem? (i := 0) rfl), zr_34 _ (List.mem_of_getElem? (i := 21) rfl), rfl, zr_1 _ (List.mem_of_getElem? (i := 2) rfl), by decide +kernel, by decide +kernel, by decide +kernel⟩, fun _ => ⟨zr_34 _ (List.mem_of_getElem? (i := 22) rfl), zr_34 _ (List.mem_of_getElem? (i := 23) rfl)⟩, fun h => absurd h (by decide), fun h => absurd h (by decide), by decide, Nat.le_of_ble_eq_true rfl, fun _ => ⟨rfl, rfl⟩⟩
theorem zC_8_344 : zCok 8 344 qX8_clearViolations := ⟨⟨zr_35 _ (List.mem_of_getElem? (i := 6) rfl), zr_35 _ (List.mem_of_getElem? (i := 3) rfl), rfl, zr_1 _ (List.mem_of_getElem? (i := 2) rfl), by decide +kernel, by decide +kernel, by decide +kernel⟩, fun _ => ⟨zr_35 _ (List.mem_of_getElem? (i := 4) rfl), zr_35 _ (List.mem_of_getElem? (i := 5) rfl)⟩, fun h => absurd h (by decide), fun h => absurd h (by decide), by decide, Nat.le_of_ble_eq_true rfl, fun _ => ⟨rfl, rfl⟩⟩
theorem zC_8_350 : zCok 8 350 qX4_add := ⟨⟨zr_35 _ (List.mem_of_getElem? (i := 10) rfl), zr_35 _ (List.mem_of_getElem? (i := 7) rfl), rfl, zr_2 _ (List.mem_of_getElem? (i := 9) rfl), by decide +kernel, by decide +kernel, by decide +kernel⟩, fun _ => ⟨zr_35 _ (List.mem_of_getElem? (i := 8) rfl), zr_35 _ (List.mem_of_getElem? (i := 9) rfl)⟩, fun h => absurd h (by decide), fun h => absurd h (by decide), by decide, Nat.le_of_ble_eq_true rfl, fun _ => ⟨rfl, rfl⟩⟩
theorem zC_8_347 : zCok 8 347 qX4_flownEntry := ⟨⟨zr_35 _ (List.mem_of_getElem? (i := 15) rfl), zr_35 _ (List.mem_of_getElem? (i := 12) rfl), rfl, zr_2 _ (List.mem_of_getElem? (i := 9) rfl), by decide +kernel, by decide +kernel, by decide +kernel⟩, fun _ => ⟨zr_35 _ (List.mem_of_getElem? (i := 13) rfl), zr_35 _ (List.mem_of_getElem? (i := 14) rfl)⟩, fun h => absurd h (by decide), fun h => absurd h (by decide), by decide, Nat.le_of_ble_eq_true rfl, fun _ => ⟨rfl, rfl⟩⟩
theorem zC_10_150 : zCok 10 150 qX9_repair := ⟨⟨zr_35 _ (List.mem_of_getElem? (i := 19) rfl), zr_35 _ (List.mem_of_getElem? (i := 16) rfl), rfl, zr_1 _ (List.mem_of_getElem? (i := 5) rfl), by decide +kernel, by decide +kernel, by decide +kernel⟩, fun _ => ⟨zr_35 _ (List.mem_of_getElem? (i := 17) rfl), zr_35 _ (List.mem_of_getElem? (i := 18) rfl)⟩, fun h => absurd h (by decide), fun h => absurd h (by decide), by decide, Nat.le_of_ble_eq_true rfl, fun _ => ⟨rfl, rfl⟩⟩
theorem zC_9_246 : zCok 9 246 qX9_callFor := ⟨⟨zr_36 _ (List.mem_of_getElem? (i := 0) rfl), zr_35 _ (List.mem_of_getElem? (i := 21) rfl), rfl, zr_1 _ (List.mem_of_getElem? (i := 5) rfl), by decide +kernel, by decide +kernel, by decide +kernel⟩, fun _ => ⟨zr_35 _ (List.mem_of_getElem? (i := 22) rfl), zr_35 _ (List.mem_of_getElem? (i := 23) rfl)⟩, fun h => absurd h (by decide), fun h => absurd h (by decide), by decide, Nat.le_of_ble_eq_true rfl, fun _ => ⟨rfl, rfl⟩⟩
theorem zC_10_151 : zCok 10 151 qX8_repaired := ⟨⟨zr_36 _ (List.mem_of_getElem? (i := 4) rfl), zr_36 _ (List.mem_of_getElem? (i := 1) rfl), rfl, zr_1 _ (List.mem_of_getElem? (i := 2) rfl), by decide +kernel, by decide +kernel, by decide +kernel⟩, fun _ => ⟨zr_36 _ (List.mem_of_getElem? (i := 2) rfl), zr_36 _ (List.mem_of_getElem? (i := 3) rfl)⟩, fun h => absurd h (by decide), fun h => absurd h (by decide), by decide, Nat.le_of_ble_eq_true rfl, fun _ => ⟨rfl, rfl⟩⟩
theorem zC_10_154 : zCok 10 154 qX9_repaired := ⟨⟨zr_36 _ (List.mem_of_getElem? (i := 11) rfl), zr_36 _ (List.mem_of_getElem? (i := 8) rfl), rfl, zr_1 _ (List.mem_of_getElem? (i := 5) rfl), by decide +kernel, by decide +kernel, by decide +kernel⟩, fun _ => ⟨zr_36 _ (List.mem_of_getElem? (i := 9) rfl), zr_36 _ (List.mem_of_getElem? (i := 10) rfl)⟩, fun h => absurd h (by decide), fun h => absurd h (by decide), by decide, Nat.le_of_ble_eq_true rfl, fun _ => ⟨rfl, rfl⟩⟩
theorem zC_10_155 : zCok 10 155 qX8_bestMinutes := ⟨⟨zr_36 _ (List.mem_of_getElem? (i := 15) rfl), zr_36 _ (List.mem_of_getElem? (i := 12) rfl), rfl, zr_1 _ (List.mem_of_getElem? (i := 2) rfl), by decide +kernel, by decide +kernel, by decide +kernel⟩, fun _ => ⟨zr_36 _ (List.mem_of_getElem? (i := 13) rfl), zr_36 _ (List.mem_of_getElem? (i := 14) rfl)⟩, fun h => absurd h (by decide), fun h => absurd h (by decide), by decide, Nat.le_of_ble_eq_true rfl, fun _ => ⟨rfl, rfl⟩⟩
theorem zC_8_259 : zCok 8 259 qX7_run := ⟨⟨zr_36 _ (List.mem_of_getElem? (i := 21) rfl), zr_36 _ (List.mem_of_getElem? (i := 18) rfl), rfl, zr_2 _ (List.mem_of_getElem? (i := 13) rfl), by decide +kernel, by decide +kernel, by decide +kernel⟩, fun _ => ⟨zr_36 _ (List.mem_of_getElem? (i := 19) rfl), zr_36 _ (List.mem_of_getElem? (i := 20) rfl)⟩, fun h => absurd h (by decide), fun h => absurd h (by decide), by decide, Nat.le_of_ble_eq_true rfl, fun _ => ⟨rfl, rfl⟩⟩
theorem zC_7_36 : zCok 7 36 qX6_load := ⟨⟨zr_14 _ (List.mem_of_getElem? (i := 10) rfl), zr_37 _ (List.mem_of_getElem? (i := 1) rfl), rfl, zr_2 _ (List.mem_of_getElem? (i := 1) rfl), by decide +kernel, by decide +kernel, by decide +kernel⟩, fun _ => ⟨zr_14 _ (List.mem_of_getElem? (i := 8) rfl), zr_14 _ (List.mem_of_getElem? (i := 9) rfl)⟩, fun h => absurd h (by decide), fun h => absurd h (by decide), by decide, Nat.le_of_ble_eq_true rfl, fun _ => ⟨rfl, rfl⟩⟩
theorem zC_7_42 : zCok 7 42 qX6_findViolations := ⟨⟨zr_15 _ (List.mem_of_getElem? (i := 4) rfl), zr_37 _ (List.mem_of_getElem? (i := 2) rfl), rfl, zr_2 _ (List.mem_of_getElem? (i := 1) rfl), by decide +kernel, by decide +kernel, by decide +kernel⟩, fun _ => ⟨zr_15 _ (List.mem_of_getElem? (i := 2) rfl), zr_15 _ (List.mem_of_getElem? (i := 3) rfl)⟩, fun h => absurd h (by decide), fun h => absurd h (by decide), by decide, Nat.le_of_ble_eq_true rfl, fun _ => ⟨rfl, rfl⟩⟩
theorem zC_7_46 : zCok 7 46 qX7_extend := ⟨⟨zr_37 _ (List.mem_of_getElem? (i := 5) rfl), zr_37 _ (List.mem_of_getElem? (i := 3) rfl), rfl, zr_2 _ (List.mem_of_getElem? (i := 13) rfl), by decide +kernel, by decide +kernel, by decide +kernel⟩, fun h => absurd h (by decide), fun _ => ⟨zr_37 _ (List.mem_of_getElem? (i := 4) rfl), rfl⟩, fun h => absurd h (by decide), by decide, Nat.le_of_ble_eq_true rfl, fun _ => ⟨rfl, rfl⟩⟩
theorem zC_7_55 : zCok 7 55 qX7_isBehind := ⟨⟨zr_37 _ (List.mem_of_getElem? (i := 10) rfl), zr_37 _ (List.mem_of_getElem? (i := 7) rfl), rfl, zr_2 _ (List.mem_of_getElem? (i := 13) rfl), by decide +kernel, by decide +kernel, by decide +kernel⟩, fun _ => ⟨zr_37 _ (List.mem_of_getElem? (i := 8) rfl), zr_37 _ (List.mem_of_getElem? (i := 9) rfl)⟩, fun h => absurd h (by decide), fun h => absurd h (by decide), by decide, Nat.le_of_ble_eq_true rfl, fun _ => ⟨rfl, rfl⟩⟩
theorem zC_7_59 : zCok 7 59 qX3_isOpen := ⟨⟨zr_28 _ (List.mem_of_getElem? (i := 4) rfl), zr_37 _ (List.mem_of_getElem? (i := 14) rfl), rfl, zr_1 _ (List.mem_of_getElem? (i := 14) rfl), by decide +kernel, by decide +kernel, by decide +kernel⟩, fun _ => ⟨zr_28 _ (List.mem_of_getElem? (i := 2) rfl), zr_28 _ (List.mem_of_getElem? (i := 3) rfl)⟩, fun h => absurd h (by decide), fun h => absurd h (by decide), by decide, Nat.le_of_ble_eq_true rfl, fun _ => ⟨rfl, rfl⟩⟩
theorem zC_7_62 : zCok 7 62 qX6_append := ⟨⟨zr_14 _ (List.mem_of_getElem? (i := 21) rfl), zr_37 _ (List.mem_of_getElem? (i := 15) rfl), rfl, zr_2 _ (List.mem_of_getElem? (i := 1) rfl), by decide +kernel, by decide +kernel, by decide +kernel⟩, fun _ => ⟨zr_14 _ (List.mem_of_getElem? (i := 19) rfl), zr_14 _ (List.mem_of_getElem? (i := 20) rfl)⟩, fun h => absurd h (by decide), fun h => absurd h (by decide), by decide, Nat.le_of_ble_eq_true rfl, fun _ => ⟨rfl, rfl⟩⟩
theorem zC_7_66 : zCok 7 66 qX6_lastBreaks := ⟨⟨zr_37 _ (List.mem_of_getElem? (i := 19) rfl), zr_37 _ (List.mem_of_getElem? (i := 16) rfl), rfl, zr_2 _ (List.mem_of_getElem? (i := 1) rfl), by decide +kernel, by decide +kernel, by decide +kernel⟩, fun _ => ⟨zr_37 _ (List.mem_of_getElem? (i := 17) rfl), zr_37 _ (List.mem_of_getElem? (i := 18) rfl)⟩, fun h => absurd h (by decide), fun h => absurd h (by decide), by decide, Nat.le_of_ble_eq_true rfl, fun _ => ⟨rfl, rfl⟩⟩
theorem zC_7_70 : zCok 7 70 qX3_lengthOf := ⟨⟨zr_24 _ (List.mem_of_getElem? (i := 18) rfl), zr_37 _ (List.mem_of_getElem? (i := 20) rfl), rfl, zr_1 _ (List.mem_of_getElem? (i := 14) rfl), by decide +kernel, by decide +kernel, by decide +kernel⟩, fun _ => ⟨zr_24 _ (List.mem_of_getElem? (i := 16) rfl), zr_24 _ (List.mem_of_getElem? (i := 17) rfl)⟩, fun h => absurd h (by decide), fun h => absurd h (by decide), by decide, Nat.le_of_ble_eq_true rfl, fun _ => ⟨rfl, rfl⟩⟩
theorem zC_7_73 : zCok 7 73 qX7_judge := ⟨⟨zr_38 _ (List.mem_of_getElem? (i := 0) rfl), zr_37 _ (List.mem_of_getElem? (i := 21) rfl), rfl, zr_2 _ (List.mem_of_getElem? (i := 13) rfl), by decide +kernel, by decide +kernel, by decide +kernel⟩, fun _ => ⟨zr_37 _ (List.mem_of_getElem? (i := 22) rfl), zr_37 _ (List.mem_of_getElem? (i := 23) rfl)⟩, fun h => absurd h (by decide), fun h => absurd h (by decide), by decide, Nat.le_of_ble_eq_true rfl, fun _ => ⟨rfl, rfl⟩⟩
theorem zC_7_88 : zCok 7 88 qX6_isHome := ⟨⟨zr_25 _ (List.mem_of_getElem? (i := 19) rfl), zr_38 _ (List.mem_of_getElem? (i := 2) rfl), rfl, zr_2 _ (List.mem_of_getElem? (i := 1) rfl), by decide +kernel, by decide +kernel, by decide +kernel⟩, fun _ => ⟨zr_25 _ (List.mem_of_getElem? (i := 17) rfl), zr_25 _ (List.mem_of_getElem? (i := 18) rfl)⟩, fun h => absurd h (by decide), fun h => absurd h (by decide), by decide, Nat.le_of_ble_eq_true rfl, fun _ => ⟨rfl, rfl⟩⟩
theorem zC_7_76 : zCok 7 76 qX6_removeLast := ⟨⟨zr_38 _ (List.mem_of_getElem? (i := 6) rfl), zr_38 _ (List.mem_of_getElem? (i := 3) rfl), rfl, zr_2 _ (List.mem_of_getElem? (i := 1) rfl), by decide +kernel, by decide +kernel, by decide +kernel⟩, fun _ => ⟨zr_38 _ (List.mem_of_getElem? (i := 4) rfl), zr_38 _ (List.mem_of_getElem? (i := 5) rfl)⟩, fun h => absurd h (by decide), fun h => absurd h (by decide), by decide, Nat.le_of_ble_eq_true rfl, fun _ => ⟨rfl, rfl⟩⟩
theorem zC_10_158 : zCok 10 158 qX9_bestMinutes := ⟨⟨zr_38 _ (List.mem_of_getElem? (i := 10) rfl), zr_38 _ (List.mem_of_getElem? (i := 7) rfl), rfl, zr_1 _ (List.mem_of_getElem? (i := 5) rfl), by decide +kernel, by decide +kernel, by decide +kernel⟩, fun _ => ⟨zr_38 _ (List.mem_of_getElem? (i := 8) rfl), zr_38 _ (List.mem_of_getElem? (i := 9) rfl)⟩, fun h => absurd h (by decide), fun h => absurd h (by decide), by decide, Nat.le_of_ble_eq_true rfl, fun _ => ⟨rfl, rfl⟩⟩
theorem zC_9_259 : zCok 9 259 qX9_findBest := ⟨⟨zr_38 _ (List.mem_of_getElem? (i := 16) rfl), zr_38 _ (List.mem_of_getElem? (i := 13) rfl), rfl, zr_1 _ (List.mem_of_getElem? (i := 5) rfl), by decide +kernel, by decide +kernel, by decide +kernel⟩, fun _ => ⟨zr_38 _ (List.mem_of_getElem? (i := 14) rfl), zr_38 _ (List.mem_of_getElem? (i := 15) rfl)⟩, fun h => absurd h (by decide), fun h => absurd h (by decide), by decide, Nat.le_of_ble_eq_true rfl, fun _ => ⟨rfl, rfl⟩⟩
theorem zC_9_256 : zCok 9 256 qX9_search := ⟨⟨zr_38 _ (List.mem_of_getElem? (i := 20) rfl), zr_38 _ (List.mem_of_getElem? (i := 17) rfl), rfl, zr_1 _ (List.mem_of_getElem? (i := 5) rfl), by decide +kernel, by decide +kernel, by decide +kernel⟩, fun _ => ⟨zr_38 _ (List.mem_of_getElem? (i := 18) rfl), zr_38 _ (List.mem_of_getElem? (i := 19) rfl)⟩, fun h => absurd h (by decide), fun h => absurd h (by decide), by decide, Nat.le_of_ble_eq_true rfl, fun _ => ⟨rfl, rfl⟩⟩
theorem zC_10_159 : zCok 10 159 qX8_bestLeg := ⟨⟨zr_39 _ (List.mem_of_getElem? (i := 0) rfl), zr_38 _ (List.mem_of_getElem? (i := 21) rfl), rfl, zr_1 _ (List.mem_of_getElem? (i := 2) rfl), by decide +kernel, by decide +kernel, by decide +kernel⟩, fun _ => ⟨zr_38 _ (List.mem_of_getElem? (i := 22) rfl), zr_38 _ (List.mem_of_getElem? (i := 23) rfl)⟩, fun h => absurd h (by decide), fun h => absurd h (by decide), by decide, Nat.le_of_ble_eq_true rfl, fun _ => ⟨rfl, rfl⟩⟩
theorem zC_10_162 : zCok 10 162 qX9_bestLeg := ⟨⟨zr_39 _ (List.mem_of_getElem? (i := 5) rfl), zr_39 _ (List.mem_of_getElem? (i := 2) rfl), rfl, zr_1 _ (List.mem_of_getElem? (i := 5) rfl), by decide +kernel, by decide +kernel, by decide +kernel⟩, fun _ => ⟨zr_39 _ (List.mem_of_getElem? (i := 3) rfl), zr_39 _ (List.mem_of_getElem? (i := 4) rfl)⟩, fun h => absurd h (by decide), fun h => absurd h (by decide), by decide, Nat.le_of_ble_eq_true rfl, fun _ => ⟨rfl, rfl⟩⟩
theorem zC_10_163 : zCok 10 163 qX8_takeBest := ⟨⟨zr_39 _ (List.mem_of_getElem? (i := 9) rfl), zr_39 _ (List.mem_of_getElem? (i := 6) rfl), rfl, zr_1 _ (List.mem_of_getElem? (i := 2) rfl), by decide +kernel, by decide +kernel, by decide +kernel⟩, fun _ => ⟨zr_39 _ (List.mem_of_getElem? (i := 7) rfl), zr_39 _ (List.mem_of_getElem? (i := 8) rfl)⟩, fun h => absurd h (by decide), fun h => absurd h (by decide), by decide, Nat.le_of_ble_eq_true rfl, fun _ => ⟨rfl, rfl⟩⟩
theorem zC_8_271 : zCok 8 271 qX8_takePairing := ⟨⟨zr_39 _ (List.mem_of_getElem? (i := 13) rfl), zr_39 _ (List.mem_of_getElem? (i := 10) rfl), rfl, zr_1 _ (List.mem_of_getElem? (i := 2) rfl), by decide +kernel, by decide +kernel, by decide +kernel⟩, fun _ => ⟨zr_39 _ (List.mem_of_getElem? (i := 11) rfl), zr_39 _ (List.mem_of_getElem? (i := 12) rfl)⟩, fun h => absurd h (by decide), fun h => absurd h (by decide), by decide, Nat.le_of_ble_eq_true rfl, fun _ => ⟨rfl, rfl⟩⟩
theorem zC_10_166 : zCok 10 166 qX9_takeBest := ⟨⟨zr_39 _ (List.mem_of_getElem? (i := 17) rfl), zr_39 _ (List.mem_of_getElem? (i := 14) rfl), rfl, zr_1 _ (List.mem_of_getElem? (i := 5) rfl), by decide +kernel, by decide +kernel, by decide +kernel⟩, fun _ => ⟨zr_39 _ (List.mem_of_getElem? (i := 15) rfl), zr_39 _ (List.mem_of_getElem? (i := 16) rfl)⟩, fun h => absurd h (by decide), fun h => absurd h (by decide), by decide, Nat.le_of_ble_eq_true rfl, fun _ => ⟨rfl, rfl⟩⟩
theorem zC_10_167 : zCok 10 167 qX8_letter := ⟨⟨zr_39 _ (List.mem_of_getElem? (i := 21) rfl), zr_39 _ (List.mem_of_getElem? (i := 18) rfl), rfl, zr_1 _ (List.mem_of_getElem? (i := 2) rfl), by decide +kernel, by decide +kernel, by decide +kernel⟩, fun _ => ⟨zr_39 _ (List.mem_of_getElem? (i := 19) rfl), zr_39 _ (List.mem_of_getElem? (i := 20) rfl)⟩, fun h => absurd h (by decide), fun h => absurd h (by decide), by decide, Nat.le_of_ble_eq_true rfl, fun _ => ⟨rfl, rfl⟩⟩
theorem zC_8_274 : zCok 8 274 qX5_write := ⟨⟨zr_40 _ (List.mem_of_getElem? (i := 3) rfl), zr_40 _ (List.mem_of_getElem? (i := 0) rfl), rfl, zr_2 _ (List.mem_of_getElem? (i := 17) rfl), by decide +kernel, by decide +kernel, by decide +kernel⟩, fun _ => ⟨zr_40 _ (List.mem_of_getElem? (i := 1) rfl), zr_40 _ (List.mem_of_getElem? (i := 2) rfl)⟩, fun h => absurd h (by decide), fun h => absurd h (by decide), by decide, Nat.le_of_ble_eq_true rfl, fun _ => ⟨rfl, rfl⟩⟩
theorem zC_5_33 : zCok 5 33 qX5_putDigit := ⟨⟨zr_40 _ (List.mem_of_getElem? (i := 15) rfl), zr_40 _ (List.mem_of_getElem? (i := 12) rfl), rfl, zr_2 _ (List.mem_of_getElem? (i := 17) rfl), by decide +kernel, by decide +kernel, by decide +kernel⟩, fun _ => ⟨zr_40 _ (List.mem_of_getElem? (i := 13) rfl), zr_40 _ (List.mem_of_getElem? (i := 14) rfl)⟩, fun h => absurd h (by decide), fun h => absurd h (by decide), by decide, Nat.le_of_ble_eq_true rfl, fun _ => ⟨rfl, rfl⟩⟩
theorem zC_5_37 : zCok 5 37 qX5_put := ⟨⟨zr_40 _ (List.mem_of_getElem? (i := 19) rfl), zr_40 _ (List.mem_of_getElem? (i := 16) rfl), rfl, zr_2 _ (List.mem_of_getElem? (i := 17) rfl), by decide +kernel, by decide +kernel, by decide +kernel⟩, fun _ => ⟨zr_40 _ (List.mem_of_getElem? (i := 17) rfl), zr_40 _ (List.mem_of_getElem? (i := 18) rfl)⟩, fun h => absurd h (by decide), fun h => absurd h (by decide), by decide, Nat.le_of_ble_eq_true rfl, fun _ => ⟨rfl, rfl⟩⟩
theorem zC_5_47 : zCok 5 47 qX5_putTime := ⟨⟨zr_40 _ (List.mem_of_getElem? (i := 23) rfl), zr_40 _ (List.mem_of_getElem? (i := 20) rfl), rfl, zr_2 _ (List.mem_of_getElem? (i := 17) rfl), by decide +kernel, by decide +kernel, by decide +kernel⟩, fun _ => ⟨zr_40 _ (List.mem_of_getElem? (i := 21) rfl), zr_40 _ (List.mem_of_getElem? (i := 22) rfl)⟩, fun h => absurd h (by decide), fun h => absurd h (by decide), by decide, Nat.le_of_ble_eq_true rfl, fun _ => ⟨rfl, rfl⟩⟩
theorem zC_5_61 : zCok 5 61 qX5_putWord := ⟨⟨zr_41 _ (List.mem_of_getElem? (i := 3) rfl), zr_41 _ (List.mem_of_getElem? (i := 0) rfl), rfl, zr_2 _ (List.mem_of_getElem? (i := 17) rfl), by decide +kernel, by decide +kernel, by decide +kernel⟩, fun _ => ⟨zr_41 _ (List.mem_of_getElem? (i := 1) rfl), zr_41 _ (List.mem_of_getElem? (i := 2) rfl)⟩, fun h => absurd h (by decide), fun h => absurd h (by decide), by decide, Nat.le_of_ble_eq_true rfl, fun _ => ⟨rfl, rfl⟩⟩
theorem zC_10_170 : zCok 10 170 qX9_letter := ⟨⟨zr_43 _ (List.mem_of_getElem? (i := 8) rfl), zr_43 _ (List.mem_of_getElem? (i := 5) rfl), rfl, zr_1 _ (List.mem_of_getElem? (i := 5) rfl), by decide +kernel, by decide +kernel, by decide +kernel⟩, fun _ => ⟨zr_43 _ (List.mem_of_getElem? (i := 6) rfl), zr_43 _ (List.mem_of_getElem? (i := 7) rfl)⟩, fun h => absurd h (by decide), fun h => absurd h (by decide), by decide, Nat.le_of_ble_eq_true rfl, fun _ => ⟨rfl, rfl⟩⟩
theorem zC_9_287 : zCok 9 287 qX9_writeItem := ⟨⟨zr_43 _ (List.mem_of_getElem? (i := 13) rfl), zr_43 _ (List.mem_of_getElem? (i := 10) rfl), rfl, zr_1 _ (List.mem_of_getElem? (i := 5) rfl), by decide +kernel, by decide +kernel, by decide +kernel⟩, fun _ => ⟨zr_43 _ (List.mem_of_getElem? (i := 11) rfl), zr_43 _ (List.mem_of_getElem? (i := 12) rfl)⟩, fun h => absurd h (by decide), fun h => absurd h (by decide), by decide, Nat.le_of_ble_eq_true rfl, fun _ => ⟨rfl, rfl⟩⟩
theorem zC_9_265 : zCok 9 265 qX9_write := ⟨⟨zr_43 _ (List.mem_of_getElem? (i := 17) rfl), zr_43 _ (List.mem_of_getElem? (i := 14) rfl), rfl, zr_1 _ (List.mem_of_getElem? (i := 5) rfl), by decide +kernel, by decide +kernel, by decide +kernel⟩, fun _ => ⟨zr_43 _ (List.mem_of_getElem? (i := 15) rfl), zr_43 _ (List.mem_of_getElem? (i := 16) rfl)⟩, fun h => absurd h (by decide), fun h => absurd h (by decide), by decide, Nat.le_of_ble_eq_true rfl, fun _ => ⟨rfl, rfl⟩⟩
theorem zC_9_271 : zCok 9 271 qX9_writeTime := ⟨⟨zr_43 _ (List.mem_of_getElem? (i := 21) rfl), zr_43 _ (List.mem_of_getElem? (i := 18) rfl), rfl, zr_1 _ (List.mem_of_getElem? (i := 5) rfl), by decide +kernel, by decide +kernel, by decide +kernel⟩, fun _ => ⟨zr_43 _ (List.mem_of_getElem? (i := 19) rfl), zr_43 _ (List.mem_of_getElem? (i := 20) rfl)⟩, fun h => absurd h (by decide), fun h => absurd h (by decide), by decide, Nat.le_of_ble_eq_true rfl, fun _ => ⟨rfl, rfl⟩⟩
theorem zC_9_268 : zCok 9 268 qX9_writeTwo := ⟨⟨zr_44 _ (List.mem_of_getElem? (i := 1) rfl), zr_43 _ (List.mem_of_getElem? (i := 22) rfl), rfl, zr_1 _ (List.mem_of_getElem? (i := 5) rfl), by decide +kernel, by decide +kernel, by decide +kernel⟩, fun _ => ⟨zr_43 _ (List.mem_of_getElem? (i := 23) rfl), zr_44 _ (List.mem_of_getElem? (i := 0) rfl)⟩, fun h => absurd h (by decide), fun h => absurd h (by decide), by decide, Nat.le_of_ble_eq_true rfl, fun _ => ⟨rfl, rfl⟩⟩
theorem zC_10_171 : zCok 10 171 qX8_feed := ⟨⟨zr_44 _ (List.mem_of_getElem? (i := 7) rfl), zr_44 _ (List.mem_of_getElem? (i := 4) rfl), rfl, zr_1 _ (List.mem_of_getElem? (i := 2) rfl), by decide +kernel, by decide +kernel, by decide +kernel⟩, fun _ => ⟨zr_44 _ (List.mem_of_getElem? (i := 5) rfl), zr_44 _ (List.mem_of_getElem? (i := 6) rfl)⟩, fun h => absurd h (by decide), fun h => absurd h (by decide), by decide, Nat.le_of_ble_eq_true rfl, fun _ => ⟨rfl, rfl⟩⟩
theorem zC_10_174 : zCok 10 174 qX9_feed := ⟨⟨zr_44 _ (List.mem_of_getElem? (i := 13) rfl), zr_44 _ (List.mem_of_getElem? (i := 10) rfl), rfl, zr_1 _ (List.mem_of_getElem? (i := 5) rfl), by decide +kernel, by decide +kernel, by decide +kernel⟩, fun _ => ⟨zr_44 _ (List.mem_of_getElem? (i := 11) rfl), zr_44 _ (List.mem_of_getElem? (i := 12) rfl)⟩, fun h => absurd h (by decide), fun h => absurd h (by decide), by decide, Nat.le_of_ble_eq_true rfl, fun _ => ⟨rfl, rfl⟩⟩
theorem zC_10_175 : zCok 10 175 qX8_execute := ⟨⟨zr_44 _ (List.mem_of_getElem? (i := 18) rfl), zr_44 _ (List.mem_of_getElem? (i := 15) rfl), rfl, zr_1 _ (List.mem_of_getElem? (i := 2) rfl), by decide +kernel, by decide +kernel, by decide +kernel⟩, fun _ => ⟨zr_44 _ (List.mem_of_getElem? (i := 16) rfl), zr_44 _ (List.mem_of_getElem? (i := 17) rfl)⟩, fun h => absurd h (by decide), fun h => absurd h (by decide), by decide, Nat.le_of_ble_eq_true rfl, fun _ => ⟨rfl, rfl⟩⟩
theorem zC_8_287 : zCok 8 287 qX0_parse := ⟨⟨zr_44 _ (List.mem_of_getElem? (i := 23) rfl), zr_44 _ (List.mem_of_getElem? (i := 20) rfl), rfl, zr_2 _ (List.mem_of_getElem? (i := 21) rfl), by decide +kernel, by decide +kernel, by decide +kernel⟩, fun _ => ⟨zr_44 _ (List.mem_of_getElem? (i := 21) rfl), zr_44 _ (List.mem_of_getElem? (i := 22) rfl)⟩, fun h => absurd h (by decide), fun h => absurd h (by decide), by decide, Nat.le_of_ble_eq_true rfl, fun _ => ⟨rfl, rfl⟩⟩
theorem zC_0_29 : zCok 0 29 qX0_parseCommand := ⟨⟨zr_45 _ (List.mem_of_getElem? (i := 6) rfl), zr_45 _ (List.mem_of_getElem? (i := 3) rfl), rfl, zr_2 _ (List.mem_of_getElem? (i := 21) rfl), by decide +kernel, by decide +kernel, by decide +kernel⟩, fun _ => ⟨zr_45 _ (List.mem_of_getElem? (i := 4) rfl), zr_45 _ (List.mem_of_getElem? (i := 5) rfl)⟩, fun h => absurd h (by decide), fun h => absurd h (by decide), by decide, Nat.le_of_ble_eq_true rfl, fun _ => ⟨rfl, rfl⟩⟩
theorem zC_0_36 : zCok 0 36 qX0_wordOf := ⟨⟨zr_45 _ (List.mem_of_getElem? (i := 9) rfl), zr_45 _ (List.mem_of_getElem? (i := 7) rfl), rfl, zr_2 _ (List.mem_of_getElem? (i := 21) rfl), by decide +kernel, by decide +kernel, by decide +kernel⟩, fun h => absurd h (by decide), fun _ => ⟨zr_45 _ (List.mem_of_getElem? (i := 8) rfl), rfl⟩, fun h => absurd h (by decide), by decide, Nat.le_of_ble_eq_true rfl, fun _ => ⟨rfl, rfl⟩⟩
theorem zC_0_40 : zCok 0 40 qX0_hasWord := ⟨⟨zr_45 _ (List.mem_of_getElem? (i := 13) rfl), zr_45 _ (List.mem_of_getElem? (i := 10) rfl), rfl, zr_2 _ (List.mem_of_getElem? (i := 21) rfl), by decide +kernel, by decide +kernel, by decide +kernel⟩, fun _ => ⟨zr_45 _ (List.mem_of_getElem? (i := 11) rfl), zr_45 _ (List.mem_of_getElem? (i := 12) rfl)⟩, fun h => absurd h (by decide), fun h => absurd h (by decide), by decide, Nat.le_of_ble_eq_true rfl, fun _ => ⟨rfl, rfl⟩⟩
theorem zC_0_47 : zCok 0 47 qX0_parseNumber := ⟨⟨zr_45 _ (List.mem_of_getElem? (i := 19) rfl), zr_45 _ (List.mem_of_getElem? (i := 16) rfl), rfl, zr_2 _ (List.mem_of_getElem? (i := 21) rfl), by decide +kernel, by decide +kernel, by decide +kernel⟩, fun _ => ⟨zr_45 _ (List.mem_of_getElem? (i := 17) rfl), zr_45 _ (List.mem_of_getElem? (i := 18) rfl)⟩, fun h => absurd h (by decide), fun h => absurd h (by decide), by decide, Nat.le_of_ble_eq_true rfl, fun _ => ⟨rfl, rfl⟩⟩
theorem zC_8_291 : zCok 8 291 qX8_runCommand := ⟨⟨zr_45 _ (List.mem_of_getElem? (i := 23) rfl), zr_45 _ (List.mem_of_getElem? (i := 20) rfl), rfl, zr_1 _ (List.mem_of_getElem? (i := 2) rfl), by decide +kernel, by decide +kernel, by decide +kernel⟩, fun _ => ⟨zr_45 _ (List.mem_of_getElem? (i := 21) rfl), zr_45 _ (List.mem_of_getElem? (i := 22) rfl)⟩, fun h => absurd h (by decide), fun h => absurd h (by decide), by decide, Nat.le_of_ble_eq_true rfl, fun _ => ⟨rfl, rfl⟩⟩
theorem zC_10_178 : zCok 10 178 qX9_execute := ⟨⟨zr_46 _ (List.mem_of_getElem? (i := 5) rfl), zr_46 _ (List.mem_of_getElem? (i := 2) rfl), rfl, zr_1 _ (List.mem_of_getElem? (i := 5) rfl), by decide +kernel, by decide +kernel, by decide +kernel⟩, fun _ => ⟨zr_46 _ (List.mem_of_getElem? (i := 3) rfl), zr_46 _ (List.mem_of_getElem? (i := 4) rfl)⟩, fun h => absurd h (by decide), fun h => absurd h (by decide), by decide, Nat.le_of_ble_eq_true rfl, fun h => absurd h (by decide)⟩
theorem zC_9_359 : zCok 9 359 qX9_command := ⟨⟨zr_46 _ (List.mem_of_getElem? (i := 11) rfl), zr_46 _ (List.mem_of_getElem? (i := 8) rfl), rfl, zr_1 _ (List.mem_of_getElem? (i := 5) rfl), by decide +kernel, by decide +kernel, by decide +kernel⟩, fun _ => ⟨zr_46 _ (List.mem_of_getElem? (i := 9) rfl), zr_46 _ (List.mem_of_getElem? (i := 10) rfl)⟩, fun h => absurd h (by decide), fun h => absurd h (by decide), by decide, Nat.le_of_ble_eq_true rfl, fun h => absurd h (by decide)⟩
theorem zC_9_319 : zCok 9 319 qX9_here := ⟨⟨zr_46 _ (List.mem_of_getElem? (i := 15) rfl), zr_46 _ (List.mem_of_getElem? (i := 12) rfl), rfl, zr_1 _ (List.mem_of_getElem? (i := 5) rfl), by decide +kernel, by decide +kernel, by decide +kernel⟩, fun _ => ⟨zr_46 _ (List.mem_of_getElem? (i := 13) rfl), zr_46 _ (List.mem_of_getElem? (i := 14) rfl)⟩, fun h => absurd h (by decide), fun h => absurd h (by decide), by decide, Nat.le_of_ble_eq_true rfl, fun _ => ⟨rfl, rfl⟩⟩
theorem zC_9_350 : zCok 9 350 qX9_wordOf := ⟨⟨zr_46 _ (List.mem_of_getElem? (i := 19) rfl), zr_46 _ (List.mem_of_getElem? (i := 16) rfl), rfl, zr_1 _ (List.mem_of_getElem? (i := 5) rfl), by decide +kernel, by decide +kernel, by decide +kernel⟩, fun _ => ⟨zr_46 _ (List.mem_of_getElem? (i := 17) rfl), zr_46 _ (List.mem_of_getElem? (i := 18) rfl)⟩, fun h => absurd h (by decide), fun h => absurd h (by decide), by decide, Nat.le_of_ble_eq_true rfl, fun h => absurd h (by decide)⟩
theorem zC_9_315 : zCok 9 315 qX9_isWord := ⟨⟨zr_47 _ (List.mem_of_getElem? (i := 0) rfl), zr_46 _ (List.mem_of_getElem? (i := 21) rfl), rfl, zr_1 _ (List.mem_of_getElem? (i := 5) rfl), by decide +kernel, by decide +kernel, by decide +kernel⟩, fun _ => ⟨zr_46 _ (List.mem_of_getElem? (i := 22) rfl), zr_46 _ (List.mem_of_getElem? (i := 23) rfl)⟩, fun h => absurd h (by decide), fun h => absurd h (by decide), by decide, Nat.le_of_ble_eq_true rfl, fun _ => ⟨rfl, rfl⟩⟩
theorem zC_9_353 : zCok 9 353 qX9_readNumber := ⟨⟨zr_47 _ (List.mem_of_getElem? (i := 4) rfl), zr_47 _ (List.mem_of_getElem? (i := 1) rfl), rfl, zr_1 _ (List.mem_of_getElem? (i := 5) rfl), by decide +kernel, by decide +kernel, by decide +kernel⟩, fun _ => ⟨zr_47 _ (List.mem_of_getElem? (i := 2) rfl), zr_47 _ (List.mem_of_getElem? (i := 3) rfl)⟩, fun h => absurd h (by decide), fun h => absurd h (by decide), by decide, Nat.le_of_ble_eq_true rfl, fun _ => ⟨rfl, rfl⟩⟩
theorem zC_9_356 : zCok 9 356 qX9_perform := ⟨⟨zr_47 _ (List.mem_of_getElem? (i := 8) rfl), zr_47 _ (List.mem_of_getElem? (i := 5) rfl), rfl, zr_1 _ (List.mem_of_getElem? (i := 5) rfl), by decide +kernel, by decide +kernel, by decide +kernel⟩, fun _ => ⟨zr_47 _ (List.mem_of_getElem? (i := 6) rfl), zr_47 _ (List.mem_of_getElem? (i := 7) rfl)⟩, fun h => absurd h (by decide), fun h => absurd h (by decide), by decide, Nat.le_of_ble_eq_true rfl, fun _ => ⟨rfl, rfl⟩⟩
theorem zC_9_325 : zCok 9 325 qX9_addLeg := ⟨⟨zr_8 _ (List.mem_of_getElem? (i := 17) rfl), zr_47 _ (List.mem_of_getElem? (i := 9) rfl), rfl, zr_1 _ (List.mem_of_getElem? (i := 5) rfl), by decide +kernel, by decide +kernel, by decide +kernel⟩, fun _ => ⟨zr_8 _ (List.mem_of_getElem? (i := 15) rfl), zr_8 _ (List.mem_of_getElem? (i := 16) rfl)⟩, fun h => absurd h (by decide), fun h => absurd h (by decide), by decide, Nat.le_of_ble_eq_true rfl, fun _ => ⟨rfl, rfl⟩⟩
theorem zC_9_329 : zCok 9 329 qX9_addCrew := ⟨⟨zr_10 _ (List.mem_of_getElem? (i := 8) rfl), zr_47 _ (List.mem_of_getElem? (i := 10) rfl), rfl, zr_1 _ (List.mem_of_getElem? (i := 5) rfl), by decide +kernel, by decide +kernel, by decide +kernel⟩, fun _ => ⟨zr_10 _ (List.mem_of_getElem? (i := 6) rfl), zr_10 _ (List.mem_of_getElem? (i := 7) rfl)⟩, fun h => absurd h (by decide), fun h => absurd h (by decide), by decide, Nat.le_of_ble_eq_true rfl, fun _ => ⟨rfl, rfl⟩⟩
theorem zC_9_332 : zCok 9 332 qX9_fly := ⟨⟨zr_16 _ (List.mem_of_getElem? (i := 11) rfl), zr_47 _ (List.mem_of_getElem? (i := 11) rfl), rfl, zr_1 _ (List.mem_of_getElem? (i := 5) rfl), by decide +kernel, by decide +kernel, by decide +kernel⟩, fun _ => ⟨zr_16 _ (List.mem_of_getElem? (i := 9) rfl), zr_16 _ (List.mem_of_getElem? (i := 10) rfl)⟩, fun h => absurd h (by decide), fun h => absurd h (by decide), by decide, Nat.le_of_ble_eq_true rfl, fun _ => ⟨rfl, rfl⟩⟩
theorem zC_9_334 : zCok 9 334 qX9_ride := ⟨⟨zr_20 _ (List.mem_of_getElem? (i := 8) rfl), zr_47 _ (List.mem_of_getElem? (i := 12) rfl), rfl, zr_1 _ (List.mem_of_getElem? (i := 5) rfl), by decide +kernel, by decide +kernel, by decide +kernel⟩, fun _ => ⟨zr_20 _ (List.mem_of_getElem? (i := 6) rfl), zr_20 _ (List.mem_of_getElem? (i := 7) rfl)⟩, fun h => absurd h (by decide), fun h => absurd h (by decide), by decide, Nat.le_of_ble_eq_true rfl, fun _ => ⟨rfl, rfl⟩⟩
theorem zC_9_336 : zCok 9 336 qX9_drop := ⟨⟨zr_20 _ (List.mem_of_getElem? (i := 21) rfl), zr_47 _ (List.mem_of_getElem? (i := 13) rfl), rfl, zr_1 _ (List.mem_of_getElem? (i := 5) rfl), by decide +kernel, by decide +kernel, by decide +kernel⟩, fun _ => ⟨zr_20 _ (List.mem_of_getElem? (i := 19) rfl), zr_20 _ (List.mem_of_getElem? (i := 20) rfl)⟩, fun h => absurd h (by decide), fun h => absurd h (by decide), by decide, Nat.le_of_ble_eq_true rfl, fun _ => ⟨rfl, rfl⟩⟩
theorem zC_9_338 : zCok 9 338 qX9_delay := ⟨⟨zr_29 _ (List.mem_of_getElem? (i := 15) rfl), zr_47 _ (List.mem_of_getElem? (i := 14) rfl), rfl, zr_1 _ (List.mem_of_getElem? (i := 5) rfl), by decide +kernel, by decide +kernel, by decide +kernel⟩, fun _ => ⟨zr_29 _ (List.mem_of_getElem? (i := 13) rfl), zr_29 _ (List.mem_of_getElem? (i := 14) rfl)⟩, fun h => absurd h (by decide), fun h => absurd h (by decide), by decide, Nat.le_of_ble_eq_true rfl, fun _ => ⟨rfl, rfl⟩⟩
theorem zC_9_341 : zCok 9 341 qX9_cancel := ⟨⟨zr_30 _ (List.mem_of_getElem? (i := 7) rfl), zr_47 _ (List.mem_of_getElem? (i := 15) rfl), rfl, zr_1 _ (List.mem_of_getElem? (i := 5) rfl), by decide +kernel, by decide +kernel, by decide +kernel⟩, fun _ => ⟨zr_30 _ (List.mem_of_getElem? (i := 5) rfl), zr_30 _ (List.mem_of_getElem? (i := 6) rfl)⟩, fun h => absurd h (by decide), fun h => absurd h (by decide), by decide, Nat.le_of_ble_eq_true rfl, fun _ => ⟨rfl, rfl⟩⟩
theorem zC_9_343 : zCok 9 343 qX9_setRule := ⟨⟨zr_13 _ (List.mem_of_getElem? (i := 2) rfl), zr_47 _ (List.mem_of_getElem? (i := 16) rfl), rfl, zr_1 _ (List.mem_of_getElem? (i := 5) rfl), by decide +kernel, by decide +kernel, by decide +kernel⟩, fun _ => ⟨zr_13 _ (List.mem_of_getElem? (i := 0) rfl), zr_13 _ (List.mem_of_getElem? (i := 1) rfl)⟩, fun h => absurd h (by decide), fun h => absurd h (by decide), by decide, Nat.le_of_ble_eq_true rfl, fun _ => ⟨rfl, rfl⟩⟩
theorem zC_9_346 : zCok 9 346 qX9_pair := ⟨⟨zr_33 _ (List.mem_of_getElem? (i := 15) rfl), zr_47 _ (List.mem_of_getElem? (i := 17) rfl), rfl, zr_1 _ (List.mem_of_getElem? (i := 5) rfl), by decide +kernel, by decide +kernel, by decide +kernel⟩, fun _ => ⟨zr_33 _ (List.mem_of_getElem? (i := 13) rfl), zr_33 _ (List.mem_of_getElem? (i := 14) rfl)⟩, fun h => absurd h (by decide), fun h => absurd h (by decide), by decide, Nat.le_of_ble_eq_true rfl, fun _ => ⟨rfl, rfl⟩⟩
theorem zC_9_348 : zCok 9 348 qX9_repair := ⟨⟨zr_35 _ (List.mem_of_getElem? (i := 19) rfl), zr_47 _ (List.mem_of_getElem? (i := 18) rfl), rfl, zr_1 _ (List.mem_of_getElem? (i := 5) rfl), by decide +kernel, by decide +kernel, by decide +kernel⟩, fun _ => ⟨zr_35 _ (List.mem_of_getElem? (i := 17) rfl), zr_35 _ (List.mem_of_getElem? (i := 18) rfl)⟩, fun h => absurd h (by decide), fun h => absurd h (by decide), by decide, Nat.le_of_ble_eq_true rfl, fun _ => ⟨rfl, rfl⟩⟩
theorem zC_10_179 : zCok 10 179 qX8_save := ⟨⟨zr_47 _ (List.mem_of_getElem? (i := 22) rfl), zr_47 _ (List.mem_of_getElem? (i := 19) rfl), rfl, zr_1 _ (List.mem_of_getElem? (i := 2) rfl), by decide +kernel, by decide +kernel, by decide +kernel⟩, fun _ => ⟨zr_47 _ (List.mem_of_getElem? (i := 20) rfl), zr_47 _ (List.mem_of_getElem? (i := 21) rfl)⟩, fun h => absurd h (by decide), fun h => absurd h (by decide), by decide, Nat.le_of_ble_eq_true rfl, fun _ => ⟨rfl, rfl⟩⟩
theorem zC_10_182 : zCok 10 182 qX9_save := ⟨⟨zr_48 _ (List.mem_of_getElem? (i := 2) rfl), zr_47 _ (List.mem_of_getElem? (i := 23) rfl), rfl, zr_1 _ (List.mem_of_getElem? (i := 5) rfl), by decide +kernel, by decide +kernel, by decide +kernel⟩, fun _ => ⟨zr_48 _ (List.mem_of_getElem? (i := 0) rfl), zr_48 _ (List.mem_of_getElem? (i := 1) rfl)⟩, fun h => absurd h (by decide), fun h => absurd h (by decide), by decide, Nat.le_of_ble_eq_true rfl, fun _ => ⟨rfl, rfl⟩⟩
theorem zC_10_183 : zCok 10 183 qX8_restore := ⟨⟨zr_48 _ (List.mem_of_getElem? (i := 7) rfl), zr_48 _ (List.mem_of_getElem? (i := 4) rfl), rfl, zr_1 _ (List.mem_of_getElem? (i := 2) rfl), by decide +kernel, by decide +kernel, by decide +kernel⟩, fun _ => ⟨zr_48 _ (List.mem_of_getElem? (i := 5) rfl), zr_48 _ (List.mem_of_getElem? (i := 6) rfl)⟩, fun h => absurd h (by decide), fun h => absurd h (by decide), by decide, Nat.le_of_ble_eq_true rfl, fun _ => ⟨rfl, rfl⟩⟩
theorem zC_10_186 : zCok 10 186 qX9_restore := ⟨⟨zr_48 _ (List.mem_of_getElem? (i := 11) rfl), zr_48 _ (List.mem_of_getElem? (i := 8) rfl), rfl, zr_1 _ (List.mem_of_getElem? (i := 5) rfl), by decide +kernel, by decide +kernel, by decide +kernel⟩, fun _ => ⟨zr_48 _ (List.mem_of_getElem? (i := 9) rfl), zr_48 _ (List.mem_of_getElem? (i := 10) rfl)⟩, fun h => absurd h (by decide), fun h => absurd h (by decide), by decide, Nat.le_of_ble_eq_true rfl, fun _ => ⟨rfl, rfl⟩⟩
theorem zC_10_187 : zCok 10 187 qX8_undo := ⟨⟨zr_48 _ (List.mem_of_getElem? (i := 15) rfl), zr_48 _ (List.mem_of_getElem? (i := 12) rfl), rfl, zr_1 _ (List.mem_of_getElem? (i := 2) rfl), by decide +kernel, by decide +kernel, by decide +kernel⟩, fun _ => ⟨zr_48 _ (List.mem_of_getElem? (i := 13) rfl), zr_48 _ (List.mem_of_getElem? (i := 14) rfl)⟩, fun h => absurd h (by decide), fun h => absurd h (by decide), by decide, Nat.le_of_ble_eq_true rfl, fun _ => ⟨rfl, rfl⟩⟩
theorem zC_8_294 : zCok 8 294 qX1_takeBack := ⟨⟨zr_48 _ (List.mem_of_getElem? (i := 19) rfl), zr_48 _ (List.mem_of_getElem? (i := 16) rfl), rfl, zr_1 _ (List.mem_of_getElem? (i := 21) rfl), by decide +kernel, by decide +kernel, by decide +kernel⟩, fun _ => ⟨zr_48 _ (List.mem_of_getElem? (i := 17) rfl), zr_48 _ (List.mem_of_getElem? (i := 18) rfl)⟩, fun h => absurd h (by decide), fun h => absurd h (by decide), by decide, Nat.le_of_ble_eq_true rfl, fun _ => ⟨rfl, rfl⟩⟩
theorem zC_10_190 : zCok 10 190 qX9_undo := ⟨⟨zr_48 _ (List.mem_of_getElem? (i := 23) rfl), zr_48 _ (List.mem_of_getElem? (i := 20) rfl), rfl, zr_1 _ (List.mem_of_getElem? (i := 5) rfl), by decide +kernel, by decide +kernel, by decide +kernel⟩, fun _ => ⟨zr_48 _ (List.mem_of_getElem? (i := 21) rfl), zr_48 _ (List.mem_of_getElem? (i := 22) rfl)⟩, fun h => absurd h (by decide), fun h => absurd h (by decide), by decide, Nat.le_of_ble_eq_true rfl, fun _ => ⟨rfl, rfl⟩⟩
def zMo (n : Nat) : List (Nat × zCl) := match n with
  | 0 => [(29, qX0_parseCommand), (36, qX0_wordOf), (40, qX0_hasWord), (47, qX0_parseNumber)]
  | 1 => [(17, qX3_init), (22, qX3_copyFrom)]
  | 2 => []
  | 3 => [(67, qX3_lengthOf), (63, qX3_flyerOf), (70, qX3_isReserve)]
  | 4 => []
  | 5 => [(33, qX5_putDigit), (37, qX5_put), (47, qX5_putTime), (61, qX5_putWord)]
  | 6 => [(69, qX6_append), (105, qX6_overfillsWindow), (98, qX6_flownWithin), (109, qX6_breaks), (92, qX6_spanOf), (95, qX6_sizeOf), (113, qX6_endsAtBase), (82, qX3_lengthOf)]
  | 7 => [(36, qX6_load), (42, qX6_findViolations), (46, qX7_extend), (55, qX7_isBehind), (59, qX3_isOpen), (62, qX6_append), (66, qX6_lastBreaks), (70, qX3_lengthOf), (73, qX7_judge), (88, qX6_isHome), (76, qX6_removeLast)]
  | 8 => [(9, qX3_init), (28, qX1_init), (35, qX6_init), (58, qX7_init), (79, qX3_copyFrom), (82, qX8_putLeg), (127, qX8_isIn), (301, qX3_hasTwin), (305, qX3_sortLegs), (86, qX8_kept), (298, qX1_remember), (90, qX8_putCrew), (100, qX3_hasLeg), (120, qX3_flyerOf), (123, qX8_changeRule), (134, qX8_take), (141, qX3_hasCrew), (144, qX8_reasonAgainst), (150, qX6_load), (182, qX6_findViolations), (321, qX6_positionOf), (138, qX8_leave), (170, qX6_spanOf), (176, qX6_sizeOf), (188, qX3_minutesOf), (191, qX6_flownWithin), (194, qX6_isHome), (198, qX6_pairingCount), (202, qX8_costOf), (324, qX6_rideMinutes), (327, qX6_nightCount), (205, qX3_isOpen), (211, qX8_shift), (214, qX8_strike), (217, qX8_changeReserve), (220, qX3_isReserve), (229, qX8_reserveFor), (330, qX3_isOnCall), (232, qX8_pairOpenLegs), (235, qX8_findOffer), (334, qX2_isWorseThan), (337, qX2_set), (341, qX3_lengthOf), (247, qX8_repairRows), (344, qX8_clearViolations), (350, qX4_add), (347, qX4_flownEntry), (259, qX7_run), (271, qX8_takePairing), (274, qX5_write), (287, qX0_parse), (291, qX8_runCommand), (294, qX1_takeBack)]
  | 9 => [(59, qX9_in), (84, qX9_isThere), (63, qX9_of), (88, qX9_change), (75, qX9_push), (91, qX9_crewAt), (100, qX9_isLeg), (104, qX9_flierOf), (97, qX9_placeIn), (94, qX9_ofCrew), (183, qX9_assign), (174, qX9_isCrew), (177, qX9_hinders_), (165, qX9_take), (168, qX9_hinders), (120, qX9_legAt), (157, qX9_put), (154, qX9_violationAt), (150, qX9_violates), (123, qX9_gapBefore), (126, qX9_beginsDuty), (141, qX9_dutyMinutes), (129, qX9_dutyEnd), (144, qX9_flownFrom), (132, qX9_isFlown), (135, qX9_lengthOf), (147, qX9_flownWithin), (161, qX9_takeOut), (180, qX9_enter), (171, qX9_give), (186, qX9_dutyOf), (189, qX9_violations), (193, qX9_minutesOf), (196, qX9_isHome), (200, qX9_costOf), (209, qX9_findOpen), (206, qX9_isOpen), (212, qX9_reorder), (215, qX9_isReserve), (218, qX9_calledFor), (240, qX9_findOffer), (233, qX9_consider), (237, qX9_isWay), (246, qX9_callFor), (259, qX9_findBest), (256, qX9_search), (287, qX9_writeItem), (265, qX9_write), (271, qX9_writeTime), (268, qX9_writeTwo), (359, qX9_command), (319, qX9_here), (350, qX9_wordOf), (315, qX9_isWord), (353, qX9_readNumber), (356, qX9_perform), (325, qX9_addLeg), (329, qX9_addCrew), (332, qX9_fly), (334, qX9_ride), (336, qX9_drop), (338, qX9_delay), (341, qX9_cancel), (343, qX9_setRule), (346, qX9_pair), (348, qX9_repair)]
  | 10 => [(9, qX8_init), (12, qX9_init), (13, qX8_addLeg), (17, qX9_addLeg), (18, qX8_addCrew), (22, qX9_addCrew), (23, qX8_legCount), (27, qX9_legCount), (28, qX8_crewCount), (31, qX9_crewCount), (32, qX8_leg), (36, qX9_leg), (37, qX8_setRule), (40, qX9_setRule), (41, qX8_rule), (44, qX9_rule), (45, qX8_fly), (48, qX9_fly), (49, qX8_ride), (52, qX9_ride), (53, qX8_drop), (56, qX9_drop), (57, qX8_reason), (61, qX9_reason), (62, qX8_place), (65, qX9_place), (66, qX8_itemCount), (69, qX9_itemCount), (70, qX8_item), (74, qX9_item), (75, qX8_dutyCount), (78, qX9_dutyCount), (79, qX8_duty), (82, qX9_duty), (83, qX8_violationCount), (86, qX9_violationCount), (87, qX8_violation), (90, qX9_violation), (91, qX8_minutes), (94, qX9_minutes), (95, qX8_within), (98, qX9_within), (99, qX8_home), (102, qX9_home), (103, qX8_pairings), (106, qX9_pairings), (107, qX8_cost), (110, qX9_cost), (111, qX8_openCount), (114, qX9_openCount), (115, qX8_open), (118, qX9_open), (119, qX8_delay), (122, qX9_delay), (123, qX8_cancel), (126, qX9_cancel), (127, qX8_setReserve), (130, qX9_setReserve), (131, qX8_reserve), (134, qX9_reserve), (135, qX8_called), (138, qX9_called), (139, qX8_pair), (142, qX9_pair), (143, qX8_offer), (146, qX9_offer), (147, qX8_repair), (150, qX9_repair), (151, qX8_repaired), (154, qX9_repaired), (155, qX8_bestMinutes), (158, qX9_bestMinutes), (159, qX8_bestLeg), (162, qX9_bestLeg), (163, qX8_takeBest), (166, qX9_takeBest), (167, qX8_letter), (170, qX9_letter), (171, qX8_feed), (174, qX9_feed), (175, qX8_execute), (178, qX9_execute), (179, qX8_save), (182, qX9_save), (183, qX8_restore), (186, qX9_restore), (187, qX8_undo), (190, qX9_undo)]
  | _ => []
def zML (n idx : Nat) : Option zCl := (zMo n).lookup idx
theorem l_10_9 : zML 10 9 = some (mX8_init, 0, 2, 8) := rfl
theorem l_8_9 : zML 8 9 = some (mX3_init, 0, 2, 3) := rfl
theorem l_8_28 : zML 8 28 = some (mX1_init, 0, 2, 1) := rfl
theorem l_1_17 : zML 1 17 = some (mX3_init, 0, 2, 3) := rfl
theorem l_8_35 : zML 8 35 = some (mX6_init, 1, 2, 6) := rfl
theorem l_8_58 : zML 8 58 = some (mX7_init, 2, 2, 7) := rfl
theorem l_10_12 : zML 10 12 = some (mX9_init, 0, 2, 9) := rfl
theorem l_10_13 : zML 10 13 = some (mX8_addLeg, 4, 0, 8) := rfl
theorem l_8_79 : zML 8 79 = some (mX3_copyFrom, 1, 0, 3) := rfl
theorem l_8_82 : zML 8 82 = some (mX8_putLeg, 4, 0, 8) := rfl
theorem l_8_127 : zML 8 127 = some (mX8_isIn, 3, 1, 8) := rfl
theorem l_8_301 : zML 8 301 = some (mX3_hasTwin, 4, 0, 3) := rfl
theorem l_8_305 : zML 8 305 = some (mX3_sortLegs, 0, 0, 3) := rfl
theorem l_8_86 : zML 8 86 = some (mX8_kept, 1, 0, 8) := rfl
theorem l_8_298 : zML 8 298 = some (mX1_remember, 1, 0, 1) := rfl
theorem l_1_22 : zML 1 22 = some (mX3_copyFrom, 1, 0, 3) := rfl
theorem l_10_17 : zML 10 17 = some (mX9_addLeg, 4, 0, 9) := rfl
theorem l_9_59 : zML 9 59 = some (mX9_in, 3, 1, 9) := rfl
theorem l_9_84 : zML 9 84 = some (mX9_isThere, 4, 0, 9) := rfl
theorem l_9_63 : zML 9 63 = some (mX9_of, 2, 0, 9) := rfl
theorem l_9_88 : zML 9 88 = some (mX9_change, 0, 0, 9) := rfl
theorem l_9_75 : zML 9 75 = some (mX9_push, 1, 0, 9) := rfl
theorem l_10_18 : zML 10 18 = some (mX8_addCrew, 1, 0, 8) := rfl
theorem l_8_90 : zML 8 90 = some (mX8_putCrew, 1, 0, 8) := rfl
theorem l_10_22 : zML 10 22 = some (mX9_addCrew, 1, 0, 9) := rfl
theorem l_9_91 : zML 9 91 = some (mX9_crewAt, 2, 1, 9) := rfl
theorem l_10_23 : zML 10 23 = some (mX8_legCount, 0, 0, 8) := rfl
theorem l_10_27 : zML 10 27 = some (mX9_legCount, 0, 0, 9) := rfl
theorem l_10_28 : zML 10 28 = some (mX8_crewCount, 0, 0, 8) := rfl
theorem l_10_31 : zML 10 31 = some (mX9_crewCount, 0, 0, 9) := rfl
theorem l_10_32 : zML 10 32 = some (mX8_leg, 2, 0, 8) := rfl
theorem l_8_100 : zML 8 100 = some (mX3_hasLeg, 1, 0, 3) := rfl
theorem l_8_120 : zML 8 120 = some (mX3_flyerOf, 1, 0, 3) := rfl
theorem l_10_36 : zML 10 36 = some (mX9_leg, 2, 0, 9) := rfl
theorem l_9_100 : zML 9 100 = some (mX9_isLeg, 1, 0, 9) := rfl
theorem l_9_104 : zML 9 104 = some (mX9_flierOf, 1, 0, 9) := rfl
theorem l_9_97 : zML 9 97 = some (mX9_placeIn, 2, 0, 9) := rfl
theorem l_9_94 : zML 9 94 = some (mX9_ofCrew, 2, 0, 9) := rfl
theorem l_10_37 : zML 10 37 = some (mX8_setRule, 2, 0, 8) := rfl
theorem l_8_123 : zML 8 123 = some (mX8_changeRule, 2, 0, 8) := rfl
theorem l_10_40 : zML 10 40 = some (mX9_setRule, 2, 0, 9) := rfl
theorem l_10_41 : zML 10 41 = some (mX8_rule, 1, 0, 8) := rfl
theorem l_10_44 : zML 10 44 = some (mX9_rule, 1, 0, 9) := rfl
theorem l_10_45 : zML 10 45 = some (mX8_fly, 2, 0, 8) := rfl
theorem l_8_134 : zML 8 134 = some (mX8_take, 3, 0, 8) := rfl
theorem l_8_141 : zML 8 141 = some (mX3_hasCrew, 1, 0, 3) := rfl
theorem l_8_144 : zML 8 144 = some (mX8_reasonAgainst, 3, 0, 8) := rfl
theorem l_8_150 : zML 8 150 = some (mX6_load, 1, 0, 6) := rfl
theorem l_6_69 : zML 6 69 = some (mX6_append, 2, 0, 6) := rfl
theorem l_8_182 : zML 8 182 = some (mX6_findViolations, 1, 0, 6) := rfl
theorem l_6_105 : zML 6 105 = some (mX6_overfillsWindow, 1, 0, 6) := rfl
theorem l_6_98 : zML 6 98 = some (mX6_flownWithin, 2, 0, 6) := rfl
theorem l_6_109 : zML 6 109 = some (mX6_breaks, 2, 0, 6) := rfl
theorem l_6_92 : zML 6 92 = some (mX6_spanOf, 1, 0, 6) := rfl
theorem l_6_95 : zML 6 95 = some (mX6_sizeOf, 1, 0, 6) := rfl
theorem l_8_321 : zML 8 321 = some (mX6_positionOf, 1, 0, 6) := rfl
theorem l_10_48 : zML 10 48 = some (mX9_fly, 2, 0, 9) := rfl
theorem l_9_183 : zML 9 183 = some (mX9_assign, 3, 0, 9) := rfl
theorem l_9_174 : zML 9 174 = some (mX9_isCrew, 1, 0, 9) := rfl
theorem l_9_177 : zML 9 177 = some (mX9_hinders_, 3, 0, 9) := rfl
theorem l_9_165 : zML 9 165 = some (mX9_take, 1, 0, 9) := rfl
theorem l_9_168 : zML 9 168 = some (mX9_hinders, 2, 0, 9) := rfl
theorem l_9_120 : zML 9 120 = some (mX9_legAt, 1, 0, 9) := rfl
theorem l_9_157 : zML 9 157 = some (mX9_put, 2, 0, 9) := rfl
theorem l_9_154 : zML 9 154 = some (mX9_violationAt, 1, 0, 9) := rfl
theorem l_9_150 : zML 9 150 = some (mX9_violates, 2, 0, 9) := rfl
theorem l_9_123 : zML 9 123 = some (mX9_gapBefore, 1, 0, 9) := rfl
theorem l_9_126 : zML 9 126 = some (mX9_beginsDuty, 1, 0, 9) := rfl
theorem l_9_141 : zML 9 141 = some (mX9_dutyMinutes, 1, 0, 9) := rfl
theorem l_9_129 : zML 9 129 = some (mX9_dutyEnd, 1, 0, 9) := rfl
theorem l_9_144 : zML 9 144 = some (mX9_flownFrom, 2, 0, 9) := rfl
theorem l_9_132 : zML 9 132 = some (mX9_isFlown, 1, 0, 9) := rfl
theorem l_9_135 : zML 9 135 = some (mX9_lengthOf, 1, 0, 9) := rfl
theorem l_9_147 : zML 9 147 = some (mX9_flownWithin, 2, 0, 9) := rfl
theorem l_9_161 : zML 9 161 = some (mX9_takeOut, 1, 0, 9) := rfl
theorem l_9_180 : zML 9 180 = some (mX9_enter, 3, 0, 9) := rfl
theorem l_9_171 : zML 9 171 = some (mX9_give, 1, 0, 9) := rfl
theorem l_10_49 : zML 10 49 = some (mX8_ride, 2, 0, 8) := rfl
theorem l_10_52 : zML 10 52 = some (mX9_ride, 2, 0, 9) := rfl
theorem l_10_53 : zML 10 53 = some (mX8_drop, 2, 0, 8) := rfl
theorem l_8_138 : zML 8 138 = some (mX8_leave, 2, 0, 8) := rfl
theorem l_10_56 : zML 10 56 = some (mX9_drop, 2, 0, 9) := rfl
theorem l_10_57 : zML 10 57 = some (mX8_reason, 3, 0, 8) := rfl
theorem l_10_61 : zML 10 61 = some (mX9_reason, 3, 0, 9) := rfl
theorem l_10_62 : zML 10 62 = some (mX8_place, 3, 0, 8) := rfl
theorem l_10_65 : zML 10 65 = some (mX9_place, 3, 0, 9) := rfl
theorem l_10_66 : zML 10 66 = some (mX8_itemCount, 1, 0, 8) := rfl
theorem l_10_69 : zML 10 69 = some (mX9_itemCount, 1, 0, 9) := rfl
theorem l_10_70 : zML 10 70 = some (mX8_item, 3, 0, 8) := rfl
theorem l_10_74 : zML 10 74 = some (mX9_item, 3, 0, 9) := rfl
theorem l_9_186 : zML 9 186 = some (mX9_dutyOf, 1, 0, 9) := rfl
theorem l_10_75 : zML 10 75 = some (mX8_dutyCount, 1, 0, 8) := rfl
theorem l_10_78 : zML 10 78 = some (mX9_dutyCount, 1, 0, 9) := rfl
theorem l_10_79 : zML 10 79 = some (mX8_duty, 3, 0, 8) := rfl
theorem l_8_170 : zML 8 170 = some (mX6_spanOf, 1, 0, 6) := rfl
theorem l_8_176 : zML 8 176 = some (mX6_sizeOf, 1, 0, 6) := rfl
theorem l_10_82 : zML 10 82 = some (mX9_duty, 3, 0, 9) := rfl
theorem l_10_83 : zML 10 83 = some (mX8_violationCount, 1, 0, 8) := rfl
theorem l_10_86 : zML 10 86 = some (mX9_violationCount, 1, 0, 9) := rfl
theorem l_9_189 : zML 9 189 = some (mX9_violations, 0, 0, 9) := rfl
theorem l_10_87 : zML 10 87 = some (mX8_violation, 3, 0, 8) := rfl
theorem l_10_90 : zML 10 90 = some (mX9_violation, 3, 0, 9) := rfl
theorem l_10_91 : zML 10 91 = some (mX8_minutes, 1, 0, 8) := rfl
theorem l_8_188 : zML 8 188 = some (mX3_minutesOf, 1, 0, 3) := rfl
theorem l_3_67 : zML 3 67 = some (mX3_lengthOf, 1, 0, 3) := rfl
theorem l_10_94 : zML 10 94 = some (mX9_minutes, 1, 0, 9) := rfl
theorem l_9_193 : zML 9 193 = some (mX9_minutesOf, 1, 0, 9) := rfl
theorem l_10_95 : zML 10 95 = some (mX8_within, 3, 0, 8) := rfl
theorem l_8_191 : zML 8 191 = some (mX6_flownWithin, 2, 0, 6) := rfl
theorem l_10_98 : zML 10 98 = some (mX9_within, 3, 0, 9) := rfl
theorem l_10_99 : zML 10 99 = some (mX8_home, 1, 0, 8) := rfl
theorem l_8_194 : zML 8 194 = some (mX6_isHome, 0, 0, 6) := rfl
theorem l_10_102 : zML 10 102 = some (mX9_home, 1, 0, 9) := rfl
theorem l_9_196 : zML 9 196 = some (mX9_isHome, 0, 0, 9) := rfl
theorem l_10_103 : zML 10 103 = some (mX8_pairings, 1, 0, 8) := rfl
theorem l_8_198 : zML 8 198 = some (mX6_pairingCount, 0, 0, 6) := rfl
theorem l_6_113 : zML 6 113 = some (mX6_endsAtBase, 1, 0, 6) := rfl
theorem l_10_106 : zML 10 106 = some (mX9_pairings, 1, 0, 9) := rfl
theorem l_10_107 : zML 10 107 = some (mX8_cost, 2, 0, 8) := rfl
theorem l_8_202 : zML 8 202 = some (mX8_costOf, 2, 0, 8) := rfl
theorem l_8_324 : zML 8 324 = some (mX6_rideMinutes, 0, 0, 6) := rfl
theorem l_6_82 : zML 6 82 = some (mX3_lengthOf, 1, 0, 3) := rfl
theorem l_8_327 : zML 8 327 = some (mX6_nightCount, 0, 0, 6) := rfl
theorem l_10_110 : zML 10 110 = some (mX9_cost, 2, 0, 9) := rfl
theorem l_9_200 : zML 9 200 = some (mX9_costOf, 2, 0, 9) := rfl
theorem l_10_111 : zML 10 111 = some (mX8_openCount, 0, 0, 8) := rfl
theorem l_8_205 : zML 8 205 = some (mX3_isOpen, 1, 0, 3) := rfl
theorem l_3_63 : zML 3 63 = some (mX3_flyerOf, 1, 0, 3) := rfl
theorem l_10_114 : zML 10 114 = some (mX9_openCount, 0, 0, 9) := rfl
theorem l_9_209 : zML 9 209 = some (mX9_findOpen, 0, 0, 9) := rfl
theorem l_9_206 : zML 9 206 = some (mX9_isOpen, 1, 0, 9) := rfl
theorem l_10_115 : zML 10 115 = some (mX8_open, 1, 0, 8) := rfl
theorem l_10_118 : zML 10 118 = some (mX9_open, 1, 0, 9) := rfl
theorem l_10_119 : zML 10 119 = some (mX8_delay, 2, 0, 8) := rfl
theorem l_8_211 : zML 8 211 = some (mX8_shift, 2, 0, 8) := rfl
theorem l_10_122 : zML 10 122 = some (mX9_delay, 2, 0, 9) := rfl
theorem l_9_212 : zML 9 212 = some (mX9_reorder, 1, 0, 9) := rfl
theorem l_10_123 : zML 10 123 = some (mX8_cancel, 1, 0, 8) := rfl
theorem l_8_214 : zML 8 214 = some (mX8_strike, 1, 0, 8) := rfl
theorem l_10_126 : zML 10 126 = some (mX9_cancel, 1, 0, 9) := rfl
theorem l_10_127 : zML 10 127 = some (mX8_setReserve, 3, 0, 8) := rfl
theorem l_8_217 : zML 8 217 = some (mX8_changeReserve, 3, 0, 8) := rfl
theorem l_8_220 : zML 8 220 = some (mX3_isReserve, 1, 0, 3) := rfl
theorem l_10_130 : zML 10 130 = some (mX9_setReserve, 3, 0, 9) := rfl
theorem l_9_215 : zML 9 215 = some (mX9_isReserve, 1, 0, 9) := rfl
theorem l_10_131 : zML 10 131 = some (mX8_reserve, 2, 0, 8) := rfl
theorem l_10_134 : zML 10 134 = some (mX9_reserve, 2, 0, 9) := rfl
theorem l_10_135 : zML 10 135 = some (mX8_called, 1, 0, 8) := rfl
theorem l_8_229 : zML 8 229 = some (mX8_reserveFor, 1, 0, 8) := rfl
theorem l_8_330 : zML 8 330 = some (mX3_isOnCall, 2, 0, 3) := rfl
theorem l_3_70 : zML 3 70 = some (mX3_isReserve, 1, 0, 3) := rfl
theorem l_10_138 : zML 10 138 = some (mX9_called, 1, 0, 9) := rfl
theorem l_9_218 : zML 9 218 = some (mX9_calledFor, 1, 0, 9) := rfl
theorem l_10_139 : zML 10 139 = some (mX8_pair, 0, 0, 8) := rfl
theorem l_8_232 : zML 8 232 = some (mX8_pairOpenLegs, 0, 0, 8) := rfl
theorem l_8_235 : zML 8 235 = some (mX8_findOffer, 1, 0, 8) := rfl
theorem l_8_334 : zML 8 334 = some (mX2_isWorseThan, 2, 0, 2) := rfl
theorem l_8_337 : zML 8 337 = some (mX2_set, 4, 0, 2) := rfl
theorem l_8_341 : zML 8 341 = some (mX3_lengthOf, 1, 0, 3) := rfl
theorem l_10_142 : zML 10 142 = some (mX9_pair, 0, 0, 9) := rfl
theorem l_9_240 : zML 9 240 = some (mX9_findOffer, 1, 0, 9) := rfl
theorem l_9_233 : zML 9 233 = some (mX9_consider, 3, 0, 9) := rfl
theorem l_9_237 : zML 9 237 = some (mX9_isWay, 3, 0, 9) := rfl
theorem l_10_143 : zML 10 143 = some (mX8_offer, 2, 0, 8) := rfl
theorem l_10_146 : zML 10 146 = some (mX9_offer, 2, 0, 9) := rfl
theorem l_10_147 : zML 10 147 = some (mX8_repair, 0, 0, 8) := rfl
theorem l_8_247 : zML 8 247 = some (mX8_repairRows, 0, 0, 8) := rfl
theorem l_8_344 : zML 8 344 = some (mX8_clearViolations, 1, 0, 8) := rfl
theorem l_8_350 : zML 8 350 = some (mX4_add, 3, 0, 4) := rfl
theorem l_8_347 : zML 8 347 = some (mX4_flownEntry, 1, 0, 4) := rfl
theorem l_10_150 : zML 10 150 = some (mX9_repair, 0, 0, 9) := rfl
theorem l_9_246 : zML 9 246 = some (mX9_callFor, 2, 0, 9) := rfl
theorem l_10_151 : zML 10 151 = some (mX8_repaired, 2, 0, 8) := rfl
theorem l_10_154 : zML 10 154 = some (mX9_repaired, 2, 0, 9) := rfl
theorem l_10_155 : zML 10 155 = some (mX8_bestMinutes, 1, 0, 8) := rfl
theorem l_8_259 : zML 8 259 = some (mX7_run, 1, 0, 7) := rfl
theorem l_7_36 : zML 7 36 = some (mX6_load, 1, 0, 6) := rfl
theorem l_7_42 : zML 7 42 = some (mX6_findViolations, 1, 0, 6) := rfl
theorem l_7_46 : zML 7 46 = some (mX7_extend, 2, 1, 7) := rfl
theorem l_7_55 : zML 7 55 = some (mX7_isBehind, 1, 0, 7) := rfl
theorem l_7_59 : zML 7 59 = some (mX3_isOpen, 1, 0, 3) := rfl
theorem l_7_62 : zML 7 62 = some (mX6_append, 2, 0, 6) := rfl
theorem l_7_66 : zML 7 66 = some (mX6_lastBreaks, 0, 0, 6) := rfl
theorem l_7_70 : zML 7 70 = some (mX3_lengthOf, 1, 0, 3) := rfl
theorem l_7_73 : zML 7 73 = some (mX7_judge, 1, 0, 7) := rfl
theorem l_7_88 : zML 7 88 = some (mX6_isHome, 0, 0, 6) := rfl
theorem l_7_76 : zML 7 76 = some (mX6_removeLast, 0, 0, 6) := rfl
theorem l_10_158 : zML 10 158 = some (mX9_bestMinutes, 1, 0, 9) := rfl
theorem l_9_259 : zML 9 259 = some (mX9_findBest, 1, 0, 9) := rfl
theorem l_9_256 : zML 9 256 = some (mX9_search, 3, 0, 9) := rfl
theorem l_10_159 : zML 10 159 = some (mX8_bestLeg, 2, 0, 8) := rfl
theorem l_10_162 : zML 10 162 = some (mX9_bestLeg, 2, 0, 9) := rfl
theorem l_10_163 : zML 10 163 = some (mX8_takeBest, 1, 0, 8) := rfl
theorem l_8_271 : zML 8 271 = some (mX8_takePairing, 1, 0, 8) := rfl
theorem l_10_166 : zML 10 166 = some (mX9_takeBest, 1, 0, 9) := rfl
theorem l_10_167 : zML 10 167 = some (mX8_letter, 2, 0, 8) := rfl
theorem l_8_274 : zML 8 274 = some (mX5_write, 2, 0, 5) := rfl
theorem l_5_33 : zML 5 33 = some (mX5_putDigit, 1, 0, 5) := rfl
theorem l_5_37 : zML 5 37 = some (mX5_put, 1, 0, 5) := rfl
theorem l_5_47 : zML 5 47 = some (mX5_putTime, 1, 0, 5) := rfl
theorem l_5_61 : zML 5 61 = some (mX5_putWord, 1, 0, 5) := rfl
theorem l_10_170 : zML 10 170 = some (mX9_letter, 2, 0, 9) := rfl
theorem l_9_287 : zML 9 287 = some (mX9_writeItem, 1, 0, 9) := rfl
theorem l_9_265 : zML 9 265 = some (mX9_write, 1, 0, 9) := rfl
theorem l_9_271 : zML 9 271 = some (mX9_writeTime, 1, 0, 9) := rfl
theorem l_9_268 : zML 9 268 = some (mX9_writeTwo, 1, 0, 9) := rfl
theorem l_10_171 : zML 10 171 = some (mX8_feed, 1, 0, 8) := rfl
theorem l_10_174 : zML 10 174 = some (mX9_feed, 1, 0, 9) := rfl
theorem l_10_175 : zML 10 175 = some (mX8_execute, 0, 0, 8) := rfl
theorem l_8_287 : zML 8 287 = some (mX0_parse, 0, 0, 0) := rfl
theorem l_0_29 : zML 0 29 = some (mX0_parseCommand, 1, 0, 0) := rfl
theorem l_0_36 : zML 0 36 = some (mX0_wordOf, 1, 1, 0) := rfl
theorem l_0_40 : zML 0 40 = some (mX0_hasWord, 2, 0, 0) := rfl
theorem l_0_47 : zML 0 47 = some (mX0_parseNumber, 1, 0, 0) := rfl
theorem l_8_291 : zML 8 291 = some (mX8_runCommand, 1, 0, 8) := rfl
theorem l_10_178 : zML 10 178 = some (mX9_execute, 0, 3, 9) := rfl
theorem l_9_359 : zML 9 359 = some (mX9_command, 1, 3, 9) := rfl
theorem l_9_319 : zML 9 319 = some (mX9_here, 0, 0, 9) := rfl
theorem l_9_350 : zML 9 350 = some (mX9_wordOf, 1, 3, 9) := rfl
theorem l_9_315 : zML 9 315 = some (mX9_isWord, 2, 0, 9) := rfl
theorem l_9_353 : zML 9 353 = some (mX9_readNumber, 1, 0, 9) := rfl
theorem l_9_356 : zML 9 356 = some (mX9_perform, 1, 0, 9) := rfl
theorem l_9_325 : zML 9 325 = some (mX9_addLeg, 4, 0, 9) := rfl
theorem l_9_329 : zML 9 329 = some (mX9_addCrew, 1, 0, 9) := rfl
theorem l_9_332 : zML 9 332 = some (mX9_fly, 2, 0, 9) := rfl
theorem l_9_334 : zML 9 334 = some (mX9_ride, 2, 0, 9) := rfl
theorem l_9_336 : zML 9 336 = some (mX9_drop, 2, 0, 9) := rfl
theorem l_9_338 : zML 9 338 = some (mX9_delay, 2, 0, 9) := rfl
theorem l_9_341 : zML 9 341 = some (mX9_cancel, 1, 0, 9) := rfl
theorem l_9_343 : zML 9 343 = some (mX9_setRule, 2, 0, 9) := rfl
theorem l_9_346 : zML 9 346 = some (mX9_pair, 0, 0, 9) := rfl
theorem l_9_348 : zML 9 348 = some (mX9_repair, 0, 0, 9) := rfl
theorem l_10_179 : zML 10 179 = some (mX8_save, 0, 0, 8) := rfl
theorem l_10_182 : zML 10 182 = some (mX9_save, 0, 0, 9) := rfl
theorem l_10_183 : zML 10 183 = some (mX8_restore, 0, 0, 8) := rfl
theorem l_10_186 : zML 10 186 = some (mX9_restore, 0, 0, 9) := rfl
theorem l_10_187 : zML 10 187 = some (mX8_undo, 0, 0, 8) := rfl
theorem l_8_294 : zML 8 294 = some (mX1_takeBack, 1, 0, 1) := rfl
theorem l_10_190 : zML 10 190 = some (mX9_undo, 0, 0, 9) := rfl
theorem zMo_0 : ∀ q ∈ zMo 0, zCok 0 q.1 q.2 := List.forall_mem_cons.mpr ⟨zC_0_29, List.forall_mem_cons.mpr ⟨zC_0_36, List.forall_mem_cons.mpr ⟨zC_0_40, List.forall_mem_cons.mpr ⟨zC_0_47, fun _ h => absurd h List.not_mem_nil⟩⟩⟩⟩
theorem zMo_1 : ∀ q ∈ zMo 1, zCok 1 q.1 q.2 := List.forall_mem_cons.mpr ⟨zC_1_17, List.forall_mem_cons.mpr ⟨zC_1_22, fun _ h => absurd h List.not_mem_nil⟩⟩
theorem zMo_2 : ∀ q ∈ zMo 2, zCok 2 q.1 q.2 := fun _ h => absurd h List.not_mem_nil
theorem zMo_3 : ∀ q ∈ zMo 3, zCok 3 q.1 q.2 := List.forall_mem_cons.mpr ⟨zC_3_67, List.forall_mem_cons.mpr ⟨zC_3_63, List.forall_mem_cons.mpr ⟨zC_3_70, fun _ h => absurd h List.not_mem_nil⟩⟩⟩
theorem zMo_4 : ∀ q ∈ zMo 4, zCok 4 q.1 q.2 := fun _ h => absurd h List.not_mem_nil
theorem zMo_5 : ∀ q ∈ zMo 5, zCok 5 q.1 q.2 := List.forall_mem_cons.mpr ⟨zC_5_33, List.forall_mem_cons.mpr ⟨zC_5_37, List.forall_mem_cons.mpr ⟨zC_5_47, List.forall_mem_cons.mpr ⟨zC_5_61, fun _ h => absurd h List.not_mem_nil⟩⟩⟩⟩
theorem zMo_6 : ∀ q ∈ zMo 6, zCok 6 q.1 q.2 := List.forall_mem_cons.mpr ⟨zC_6_69, List.forall_mem_cons.mpr ⟨zC_6_105, List.forall_mem_cons.mpr ⟨zC_6_98, List.forall_mem_cons.mpr ⟨zC_6_109, List.forall_mem_cons.mpr ⟨zC_6_92, List.forall_mem_cons.mpr ⟨zC_6_95, List.forall_mem_cons.mpr ⟨zC_6_113, List.forall_mem_cons.mpr ⟨zC_6_82, fun _ h => absurd h List.not_mem_nil⟩⟩⟩⟩⟩⟩⟩⟩
theorem zMo_7 : ∀ q ∈ zMo 7, zCok 7 q.1 q.2 := List.forall_mem_cons.mpr ⟨zC_7_36, List.forall_mem_cons.mpr ⟨zC_7_42, List.forall_mem_cons.mpr ⟨zC_7_46, List.forall_mem_cons.mpr ⟨zC_7_55, List.forall_mem_cons.mpr ⟨zC_7_59, List.forall_mem_cons.mpr ⟨zC_7_62, List.forall_mem_cons.mpr ⟨zC_7_66, List.forall_mem_cons.mpr ⟨zC_7_70, List.forall_mem_cons.mpr ⟨zC_7_73, List.forall_mem_cons.mpr ⟨zC_7_88, List.forall_mem_cons.mpr ⟨zC_7_76, fun _ h => absurd h List.not_mem_nil⟩⟩⟩⟩⟩⟩⟩⟩⟩⟩⟩
theorem zMo_8 : ∀ q ∈ zMo 8, zCok 8 q.1 q.2 := List.forall_mem_cons.mpr ⟨zC_8_9, List.forall_mem_cons.mpr ⟨zC_8_28, List.forall_mem_cons.mpr ⟨zC_8_35, List.forall_mem_cons.mpr ⟨zC_8_58, List.forall_mem_cons.mpr ⟨zC_8_79, List.forall_mem_cons.mpr ⟨zC_8_82, List.forall_mem_cons.mpr ⟨zC_8_127, List.forall_mem_cons.mpr ⟨zC_8_301, List.forall_mem_cons.mpr ⟨zC_8_305, List.forall_mem_cons.mpr ⟨zC_8_86, List.forall_mem_cons.mpr ⟨zC_8_298, List.forall_mem_cons.mpr ⟨zC_8_90, List.forall_mem_cons.mpr ⟨zC_8_100, List.forall_mem_cons.mpr ⟨zC_8_120, List.forall_mem_cons.mpr ⟨zC_8_123, List.forall_mem_cons.mpr ⟨zC_8_134, List.forall_mem_cons.mpr ⟨zC_8_141, List.forall_mem_cons.mpr ⟨zC_8_144, List.forall_mem_cons.mpr ⟨zC_8_150, List.forall_mem_cons.mpr ⟨zC_8_182, List.forall_mem_cons.mpr ⟨zC_8_321, List.forall_mem_cons.mpr ⟨zC_8_138, List.forall_mem_cons.mpr ⟨zC_8_170, List.forall_mem_cons.mpr ⟨zC_8_176, List.forall_mem_cons.mpr ⟨zC_8_188, List.forall_mem_cons.mpr ⟨zC_8_191, List.forall_mem_cons.mpr ⟨zC_8_194, List.forall_mem_cons.mpr ⟨zC_8_198, List.forall_mem_cons.mpr ⟨zC_8_202, List.forall_mem_cons.mpr ⟨zC_8_324, List.forall_mem_cons.mpr ⟨zC_8_327, List.forall_mem_cons.mpr ⟨zC_8_205, List.forall_mem_cons.mpr ⟨zC_8_211, List.forall_mem_cons.mpr ⟨zC_8_214, List.forall_mem_cons.mpr ⟨zC_8_217, List.forall_mem_cons.mpr ⟨zC_8_220, List.forall_mem_cons.mpr ⟨zC_8_229, List.forall_mem_cons.mpr ⟨zC_8_330, List.forall_mem_cons.mpr ⟨zC_8_232, List.forall_mem_cons.mpr ⟨zC_8_235, List.forall_mem_cons.mpr ⟨zC_8_334, List.forall_mem_cons.mpr ⟨zC_8_337, List.forall_mem_cons.mpr ⟨zC_8_341, List.forall_mem_cons.mpr ⟨zC_8_247, List.forall_mem_cons.mpr ⟨zC_8_344, List.forall_mem_cons.mpr ⟨zC_8_350, List.forall_mem_cons.mpr ⟨zC_8_347, List.forall_mem_cons.mpr ⟨zC_8_259, List.forall_mem_cons.mpr ⟨zC_8_271, List.forall_mem_cons.mpr ⟨zC_8_274, List.forall_mem_cons.mpr ⟨zC_8_287, List.forall_mem_cons.mpr ⟨zC_8_291, List.forall_mem_cons.mpr ⟨zC_8_294, fun _ h => absurd h List.not_mem_nil⟩⟩⟩⟩⟩⟩⟩⟩⟩⟩⟩⟩⟩⟩⟩⟩⟩⟩⟩⟩⟩⟩⟩⟩⟩⟩⟩⟩⟩⟩⟩⟩⟩⟩⟩⟩⟩⟩⟩⟩⟩⟩⟩⟩⟩⟩⟩⟩⟩⟩⟩⟩⟩
theorem zMo_9 : ∀ q ∈ zMo 9, zCok 9 q.1 q.2 := List.forall_mem_cons.mpr ⟨zC_9_59, List.forall_mem_cons.mpr ⟨zC_9_84, List.forall_mem_cons.mpr ⟨zC_9_63, List.forall_mem_cons.mpr ⟨zC_9_88, List.forall_mem_cons.mpr ⟨zC_9_75, List.forall_mem_cons.mpr ⟨zC_9_91, List.forall_mem_cons.mpr ⟨zC_9_100, List.forall_mem_cons.mpr ⟨zC_9_104, List.forall_mem_cons.mpr ⟨zC_9_97, List.forall_mem_cons.mpr ⟨zC_9_94, List.forall_mem_cons.mpr ⟨zC_9_183, List.forall_mem_cons.mpr ⟨zC_9_174, List.forall_mem_cons.mpr ⟨zC_9_177, List.forall_mem_cons.mpr ⟨zC_9_165, List.forall_mem_cons.mpr ⟨zC_9_168, List.forall_mem_cons.mpr ⟨zC_9_120, List.forall_mem_cons.mpr ⟨zC_9_157, List.forall_mem_cons.mpr ⟨zC_9_154, List.forall_mem_cons.mpr ⟨zC_9_150, List.forall_mem_cons.mpr ⟨zC_9_123, List.forall_mem_cons.mpr ⟨zC_9_126, List.forall_mem_cons.mpr ⟨zC_9_141, List.forall_mem_cons.mpr ⟨zC_9_129, List.forall_mem_cons.mpr ⟨zC_9_144, List.forall_mem_cons.mpr ⟨zC_9_132, List.forall_mem_cons.mpr ⟨zC_9_135, List.forall_mem_cons.mpr ⟨zC_9_147, List.forall_mem_cons.mpr ⟨zC_9_161, List.forall_mem_cons.mpr ⟨zC_9_180, List.forall_mem_cons.mpr ⟨zC_9_171, List.forall_mem_cons.mpr ⟨zC_9_186, List.forall_mem_cons.mpr ⟨zC_9_189, List.forall_mem_cons.mpr ⟨zC_9_193, List.forall_mem_cons.mpr ⟨zC_9_196, List.forall_mem_cons.mpr ⟨zC_9_200, List.forall_mem_cons.mpr ⟨zC_9_209, List.forall_mem_cons.mpr ⟨zC_9_206, List.forall_mem_cons.mpr ⟨zC_9_212, List.forall_mem_cons.mpr ⟨zC_9_215, List.forall_mem_cons.mpr ⟨zC_9_218, List.forall_mem_cons.mpr ⟨zC_9_240, List.forall_mem_cons.mpr ⟨zC_9_233, List.forall_mem_cons.mpr ⟨zC_9_237, List.forall_mem_cons.mpr ⟨zC_9_246, List.forall_mem_cons.mpr ⟨zC_9_259, List.forall_mem_cons.mpr ⟨zC_9_256, List.forall_mem_cons.mpr ⟨zC_9_287, List.forall_mem_cons.mpr ⟨zC_9_265, List.forall_mem_cons.mpr ⟨zC_9_271, List.forall_mem_cons.mpr ⟨zC_9_268, List.forall_mem_cons.mpr ⟨zC_9_359, List.forall_mem_cons.mpr ⟨zC_9_319, List.forall_mem_cons.mpr ⟨zC_9_350, List.forall_mem_cons.mpr ⟨zC_9_315, List.forall_mem_cons.mpr ⟨zC_9_353, List.forall_mem_cons.mpr ⟨zC_9_356, List.forall_mem_cons.mpr ⟨zC_9_325, List.forall_mem_cons.mpr ⟨zC_9_329, List.forall_mem_cons.mpr ⟨zC_9_332, List.forall_mem_cons.mpr ⟨zC_9_334, List.forall_mem_cons.mpr ⟨zC_9_336, List.forall_mem_cons.mpr ⟨zC_9_338, List.forall_mem_cons.mpr ⟨zC_9_341, List.forall_mem_cons.mpr ⟨zC_9_343, List.forall_mem_cons.mpr ⟨zC_9_346, List.forall_mem_cons.mpr ⟨zC_9_348, fun _ h => absurd h List.not_mem_nil⟩⟩⟩⟩⟩⟩⟩⟩⟩⟩⟩⟩⟩⟩⟩⟩⟩⟩⟩⟩⟩⟩⟩⟩⟩⟩⟩⟩⟩⟩⟩⟩⟩⟩⟩⟩⟩⟩⟩⟩⟩⟩⟩⟩⟩⟩⟩⟩⟩⟩⟩⟩⟩⟩⟩⟩⟩⟩⟩⟩⟩⟩⟩⟩⟩⟩
theorem zMo_10 : ∀ q ∈ zMo 10, zCok 10 q.1 q.2 := List.forall_mem_cons.mpr ⟨zC_10_9, List.forall_mem_cons.mpr ⟨zC_10_12, List.forall_mem_cons.mpr ⟨zC_10_13, List.forall_mem_cons.mpr ⟨zC_10_17, List.forall_mem_cons.mpr ⟨zC_10_18, List.forall_mem_cons.mpr ⟨zC_10_22, List.forall_mem_cons.mpr ⟨zC_10_23, List.forall_mem_cons.mpr ⟨zC_10_27, List.forall_mem_cons.mpr ⟨zC_10_28, List.forall_mem_cons.mpr ⟨zC_10_31, List.forall_mem_cons.mpr ⟨zC_10_32, List.forall_mem_cons.mpr ⟨zC_10_36, List.forall_mem_cons.mpr ⟨zC_10_37, List.forall_mem_cons.mpr ⟨zC_10_40, List.forall_mem_cons.mpr ⟨zC_10_41, List.forall_mem_cons.mpr ⟨zC_10_44, List.forall_mem_cons.mpr ⟨zC_10_45, List.forall_mem_cons.mpr ⟨zC_10_48, List.forall_mem_cons.mpr ⟨zC_10_49, List.forall_mem_cons.mpr ⟨zC_10_52, List.forall_mem_cons.mpr ⟨zC_10_53, List.forall_mem_cons.mpr ⟨zC_10_56, List.forall_mem_cons.mpr ⟨zC_10_57, List.forall_mem_cons.mpr ⟨zC_10_61, List.forall_mem_cons.mpr ⟨zC_10_62, List.forall_mem_cons.mpr ⟨zC_10_65, List.forall_mem_cons.mpr ⟨zC_10_66, List.forall_mem_cons.mpr ⟨zC_10_69, List.forall_mem_cons.mpr ⟨zC_10_70, List.forall_mem_cons.mpr ⟨zC_10_74, List.forall_mem_cons.mpr ⟨zC_10_75, List.forall_mem_cons.mpr ⟨zC_10_78, List.forall_mem_cons.mpr ⟨zC_10_79, List.forall_mem_cons.mpr ⟨zC_10_82, List.forall_mem_cons.mpr ⟨zC_10_83, List.forall_mem_cons.mpr ⟨zC_10_86, List.forall_mem_cons.mpr ⟨zC_10_87, List.forall_mem_cons.mpr ⟨zC_10_90, List.forall_mem_cons.mpr ⟨zC_10_91, List.forall_mem_cons.mpr ⟨zC_10_94, List.forall_mem_cons.mpr ⟨zC_10_95, List.forall_mem_cons.mpr ⟨zC_10_98, List.forall_mem_cons.mpr ⟨zC_10_99, List.forall_mem_cons.mpr ⟨zC_10_102, List.forall_mem_cons.mpr ⟨zC_10_103, List.forall_mem_cons.mpr ⟨zC_10_106, List.forall_mem_cons.mpr ⟨zC_10_107, List.forall_mem_cons.mpr ⟨zC_10_110, List.forall_mem_cons.mpr ⟨zC_10_111, List.forall_mem_cons.mpr ⟨zC_10_114, List.forall_mem_cons.mpr ⟨zC_10_115, List.forall_mem_cons.mpr ⟨zC_10_118, List.forall_mem_cons.mpr ⟨zC_10_119, List.forall_mem_cons.mpr ⟨zC_10_122, List.forall_mem_cons.mpr ⟨zC_10_123, List.forall_mem_cons.mpr ⟨zC_10_126, List.forall_mem_cons.mpr ⟨zC_10_127, List.forall_mem_cons.mpr ⟨zC_10_130, List.forall_mem_cons.mpr ⟨zC_10_131, List.forall_mem_cons.mpr ⟨zC_10_134, List.forall_mem_cons.mpr ⟨zC_10_135, List.forall_mem_cons.mpr ⟨zC_10_138, List.forall_mem_cons.mpr ⟨zC_10_139, List.forall_mem_cons.mpr ⟨zC_10_142, List.forall_mem_cons.mpr ⟨zC_10_143, List.forall_mem_cons.mpr ⟨zC_10_146, List.forall_mem_cons.mpr ⟨zC_10_147, List.forall_mem_cons.mpr ⟨zC_10_150, List.forall_mem_cons.mpr ⟨zC_10_151, List.forall_mem_cons.mpr ⟨zC_10_154, List.forall_mem_cons.mpr ⟨zC_10_155, List.forall_mem_cons.mpr ⟨zC_10_158, List.forall_mem_cons.mpr ⟨zC_10_159, List.forall_mem_cons.mpr ⟨zC_10_162, List.forall_mem_cons.mpr ⟨zC_10_163, List.forall_mem_cons.mpr ⟨zC_10_166, List.forall_mem_cons.mpr ⟨zC_10_167, List.forall_mem_cons.mpr ⟨zC_10_170, List.forall_mem_cons.mpr ⟨zC_10_171, List.forall_mem_cons.mpr ⟨zC_10_174, List.forall_mem_cons.mpr ⟨zC_10_175, List.forall_mem_cons.mpr ⟨zC_10_178, List.forall_mem_cons.mpr ⟨zC_10_179, List.forall_mem_cons.mpr ⟨zC_10_182, List.forall_mem_cons.mpr ⟨zC_10_183, List.forall_mem_cons.mpr ⟨zC_10_186, List.forall_mem_cons.mpr ⟨zC_10_187, List.forall_mem_cons.mpr ⟨zC_10_190, fun _ h => absurd h List.not_mem_nil⟩⟩⟩⟩⟩⟩⟩⟩⟩⟩⟩⟩⟩⟩⟩⟩⟩⟩⟩⟩⟩⟩⟩⟩⟩⟩⟩⟩⟩⟩⟩⟩⟩⟩⟩⟩⟩⟩⟩⟩⟩⟩⟩⟩⟩⟩⟩⟩⟩⟩⟩⟩⟩⟩⟩⟩⟩⟩⟩⟩⟩⟩⟩⟩⟩⟩⟩⟩⟩⟩⟩⟩⟩⟩⟩⟩⟩⟩⟩⟩⟩⟩⟩⟩⟩⟩⟩⟩
theorem zML_ok {n idx : Nat} {q : zCl} (h : zML n idx = some q) : zCok n idx q := by
  have hm := zlk h
  by_cases hn : n < 11
  · rcases (show n = 0 ∨ n = 1 ∨ n = 2 ∨ n = 3 ∨ n = 4 ∨ n = 5 ∨ n = 6 ∨ n = 7 ∨ n = 8 ∨ n = 9 ∨ n = 10 by omega) with rfl | rfl | rfl | rfl | rfl | rfl | rfl | rfl | rfl | rfl | rfl
    · exact zMo_0 _ hm
    · exact zMo_1 _ hm
    · exact zMo_2 _ hm
    · exact zMo_3 _ hm
    · exact zMo_4 _ hm
    · exact zMo_5 _ hm
    · exact zMo_6 _ hm
    · exact zMo_7 _ hm
    · exact zMo_8 _ hm
    · exact zMo_9 _ hm
    · exact zMo_10 _ hm
  · exfalso
    have : zMo n = [] := by
      unfold zMo
      split <;> first | rfl | omega
    rw [this] at hm
    cases hm
/-- the JDK's own: 0 Object(), 1 arraycopy, 2 max, 3 min, 4 length, 5 charAt -/
def zBI (own idx : Nat) : Nat := match own with
  | 0 => (match idx with
    | 3 => 0
    | 50 => 4
    | 55 => 5
    | _ => 9)
  | 1 => (match idx with
    | 3 => 0
    | _ => 9)
  | 2 => (match idx with
    | 3 => 0
    | _ => 9)
  | 3 => (match idx with
    | 3 => 0
    | 50 => 1
    | _ => 9)
  | 4 => (match idx with
    | 3 => 0
    | _ => 9)
  | 5 => (match idx with
    | 3 => 0
    | 65 => 4
    | 70 => 5
    | _ => 9)
  | 6 => (match idx with
    | 3 => 0
    | _ => 9)
  | 7 => (match idx with
    | 3 => 0
    | 91 => 1
    | _ => 9)
  | 8 => (match idx with
    | 1 => 0
    | _ => 9)
  | 9 => (match idx with
    | 3 => 0
    | 53 => 1
    | 79 => 3
    | 138 => 2
    | 278 => 4
    | 283 => 5
    | _ => 9)
  | _ => 9
theorem b_8_127 : zBI 8 127 = 9 := rfl
theorem b_9_59 : zBI 9 59 = 9 := rfl
theorem b_9_91 : zBI 9 91 = 9 := rfl
theorem b_7_46 : zBI 7 46 = 9 := rfl
theorem b_0_36 : zBI 0 36 = 9 := rfl
theorem b_3_50 : zBI 3 50 = 1 := rfl
theorem b_9_53 : zBI 9 53 = 1 := rfl
theorem b_9_79 : zBI 9 79 = 3 := rfl
theorem b_9_138 : zBI 9 138 = 2 := rfl
theorem b_7_91 : zBI 7 91 = 1 := rfl
