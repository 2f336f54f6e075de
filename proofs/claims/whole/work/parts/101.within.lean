theorem w10_1_6 (M : MM) (v : Int32) : f_X10_within M v (1 : Int32) (6 : Int32) = some (b2i (inR v 1 6)) := w10 M v 1 6
theorem w11_1_6 (M : MM) (v : Int32) : f_X11_within M v (1 : Int32) (6 : Int32) = some (b2i (inR v 1 6)) := w11 M v 1 6
theorem w10_1_9 (M : MM) (v : Int32) : f_X10_within M v (1 : Int32) (9 : Int32) = some (b2i (inR v 1 9)) := w10 M v 1 9
theorem w11_1_9 (M : MM) (v : Int32) : f_X11_within M v (1 : Int32) (9 : Int32) = some (b2i (inR v 1 9)) := w11 M v 1 9
theorem w10_0_81 (M : MM) (v : Int32) : f_X10_within M v (0 : Int32) (81 : Int32) = some (b2i (inR v 0 81)) := w10 M v 0 81
theorem w11_0_81 (M : MM) (v : Int32) : f_X11_within M v (0 : Int32) (81 : Int32) = some (b2i (inR v 0 81)) := w11 M v 0 81
theorem w10_0_9 (M : MM) (v : Int32) : f_X10_within M v (0 : Int32) (9 : Int32) = some (b2i (inR v 0 9)) := w10 M v 0 9
theorem w11_0_9 (M : MM) (v : Int32) : f_X11_within M v (0 : Int32) (9 : Int32) = some (b2i (inR v 0 9)) := w11 M v 0 9
theorem w10_0_3 (M : MM) (v : Int32) : f_X10_within M v (0 : Int32) (3 : Int32) = some (b2i (inR v 0 3)) := w10 M v 0 3
theorem w11_0_3 (M : MM) (v : Int32) : f_X11_within M v (0 : Int32) (3 : Int32) = some (b2i (inR v 0 3)) := w11 M v 0 3
theorem w10_0_2 (M : MM) (v : Int32) : f_X10_within M v (0 : Int32) (2 : Int32) = some (b2i (inR v 0 2)) := w10 M v 0 2
theorem w11_0_2 (M : MM) (v : Int32) : f_X11_within M v (0 : Int32) (2 : Int32) = some (b2i (inR v 0 2)) := w11 M v 0 2
theorem w10_0_1 (M : MM) (v : Int32) : f_X10_within M v (0 : Int32) (1 : Int32) = some (b2i (inR v 0 1)) := w10 M v 0 1
theorem w11_0_1 (M : MM) (v : Int32) : f_X11_within M v (0 : Int32) (1 : Int32) = some (b2i (inR v 0 1)) := w11 M v 0 1
theorem w10_0_8 (M : MM) (v : Int32) : f_X10_within M v (0 : Int32) (8 : Int32) = some (b2i (inR v 0 8)) := w10 M v 0 8
theorem w11_0_8 (M : MM) (v : Int32) : f_X11_within M v (0 : Int32) (8 : Int32) = some (b2i (inR v 0 8)) := w11 M v 0 8
theorem w10_0_20 (M : MM) (v : Int32) : f_X10_within M v (0 : Int32) (20 : Int32) = some (b2i (inR v 0 20)) := w10 M v 0 20
theorem w11_0_20 (M : MM) (v : Int32) : f_X11_within M v (0 : Int32) (20 : Int32) = some (b2i (inR v 0 20)) := w11 M v 0 20
theorem w10_0_5 (M : MM) (v : Int32) : f_X10_within M v (0 : Int32) (5 : Int32) = some (b2i (inR v 0 5)) := w10 M v 0 5
theorem w11_0_5 (M : MM) (v : Int32) : f_X11_within M v (0 : Int32) (5 : Int32) = some (b2i (inR v 0 5)) := w11 M v 0 5
theorem w10_10_17 (M : MM) (v : Int32) : f_X10_within M v (10 : Int32) (17 : Int32) = some (b2i (inR v 10 17)) := w10 M v 10 17
theorem w11_10_17 (M : MM) (v : Int32) : f_X11_within M v (10 : Int32) (17 : Int32) = some (b2i (inR v 10 17)) := w11 M v 10 17
theorem w10_49_54 (M : MM) (v : Int32) : f_X10_within M v (49 : Int32) (54 : Int32) = some (b2i (inR v 49 54)) := w10 M v 49 54
theorem w11_49_54 (M : MM) (v : Int32) : f_X11_within M v (49 : Int32) (54 : Int32) = some (b2i (inR v 49 54)) := w11 M v 49 54
theorem w10_49_57 (M : MM) (v : Int32) : f_X10_within M v (49 : Int32) (57 : Int32) = some (b2i (inR v 49 57)) := w10 M v 49 57
theorem w11_49_57 (M : MM) (v : Int32) : f_X11_within M v (49 : Int32) (57 : Int32) = some (b2i (inR v 49 57)) := w11 M v 49 57
theorem w10_48_57 (M : MM) (v : Int32) : f_X10_within M v (48 : Int32) (57 : Int32) = some (b2i (inR v 48 57)) := w10 M v 48 57
theorem w11_48_57 (M : MM) (v : Int32) : f_X11_within M v (48 : Int32) (57 : Int32) = some (b2i (inR v 48 57)) := w11 M v 48 57
theorem w10_48_51 (M : MM) (v : Int32) : f_X10_within M v (48 : Int32) (51 : Int32) = some (b2i (inR v 48 51)) := w10 M v 48 51
theorem w11_48_51 (M : MM) (v : Int32) : f_X11_within M v (48 : Int32) (51 : Int32) = some (b2i (inR v 48 51)) := w11 M v 48 51
theorem nb_b (b : Bool) : nb (b2i b) = true := by cases b <;> rfl
theorem q_X10_isSheet (M : MM) (v : Int32) : f_X10_isSheet M v = some (b2i (inR v 0 3)) := by
  unfold f_X10_isSheet
  rw [w10_0_3, br_s, if_pos (nb_b _)]
theorem q_X10_isLane (M : MM) (v : Int32) : f_X10_isLane M v = some (b2i (inR v 0 2)) := by
  unfold f_X10_isLane
  rw [w10_0_2, br_s, if_pos (nb_b _)]
theorem q_X10_isHeight (M : MM) (v : Int32) : f_X10_isHeight M v = some (b2i (inR v 0 9)) := by
  unfold f_X10_isHeight
  rw [w10_0_9, br_s, if_pos (nb_b _)]
theorem q_X10_isDigit (M : MM) (v : Int32) : f_X10_isDigit M v = some (b2i (inR v 0 9)) := by
  unfold f_X10_isDigit
  rw [w10_0_9, br_s, if_pos (nb_b _)]
theorem q_X10_isImage (M : MM) (v : Int32) : f_X10_isImage M v = some (b2i (inR v 0 1)) := by
  unfold f_X10_isImage
  rw [w10_0_1, br_s, if_pos (nb_b _)]
theorem q_X11_isSheet (M : MM) (v : Int32) : f_X11_isSheet M v = some (b2i (inR v 0 3)) := by
  unfold f_X11_isSheet
  rw [w11_0_3, br_s, if_pos (nb_b _)]
theorem q_X11_isSort (M : MM) (v : Int32) : f_X11_isSort M v = some (b2i (inR v 0 2)) := by
  unfold f_X11_isSort
  rw [w11_0_2, br_s, if_pos (nb_b _)]
theorem q_X11_isDigit (M : MM) (v : Int32) : f_X11_isDigit M v = some (b2i (inR v 0 9)) := by
  unfold f_X11_isDigit
  rw [w11_0_9, br_s, if_pos (nb_b _)]
