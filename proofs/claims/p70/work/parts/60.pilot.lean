def hb_pil_IN : List (Nat × Instr × Nat) := [(0, .iload_n 1, 1), (1, .ifCond .lt 23, 3), (4, .iload_n 1, 1), (5, .aload_n 0, 1), (6, .getfield 25, 3), (9, .if_icmp .ge 15, 3), (12, .iload_n 2, 1), (13, .ifCond .lt 11, 3), (16, .iload_n 2, 1), (17, .aload_n 0, 1), (18, .getfield 15, 3), (21, .if_icmp .lt 6, 3), (24, .bipush (-2), 2), (26, .ireturn, 1), (27, .iload_n 1, 1), (28, .aload_n 0, 1), (29, .getfield 15, 3), (32, .imul, 1), (33, .iload_n 2, 1), (34, .iadd, 1), (35, .istore_n 3, 1), (36, .iload_n 3, 1), (37, .aload_n 0, 1), (38, .getfield 21, 3), (41, .arraylength, 1), (42, .if_icmp .ge 12, 3), (45, .aload_n 0, 1), (46, .getfield 21, 3), (49, .iload_n 3, 1), (50, .iaload, 1), (51, .goto 5, 3), (54, .bipush (-2), 2), (56, .ireturn, 1)]
def hb_pil_KT : List hbK := [(0, 7, 3, [(0, 3, 3), (2, 1, 0), (0, 0, 8)]), (1, 0, 24, [(0, -2147483648, 2147483647)])]
def hb_pil_PL : hbL := ([(25, 7, 2, 0), (15, 7, 0, 9), (21, 7, 1, 9)], [], [], [], [])
def hb_pil_q : hbQ := (0, (([(0, 0), (-2147483648, 2147483647), (-2147483648, 2147483647)], [], []), [(2, 0, 0, 0), (0, 1, 1, 0), (0, 1, 2, 0)], []), [((([(0, 0), (-2147483648, 2147483647), (-2147483648, 2147483647)], [], []), [], [(0, 0, 0, -2)], []), []), ((([(0, 0), (0, 7), (0, 2), (-2147483648, 2147483647)], [], []), [], [(0, 1, 3, 0)], []), [(1, 0, 0)])], ([0, 1], []), (0, 0))
def hb_pil_z : hbZ := ([], [], [], 200, 1)
theorem hb_pil : hb_chk hb_pil_KT [] [] 20 4 hb_pil_PL hb_pil_IN 0 hb_pil_q hb_pil_z = true := by decide +kernel
theorem hb_pil2 : hb_pil_IN.all (fun w => match decode prog_9_method_4_code w.1 with
  | .ok x => decide (x = w.2)
  | _ => false) = true := by decide +kernel
