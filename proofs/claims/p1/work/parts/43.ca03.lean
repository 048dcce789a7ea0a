/-! A CALL ON A FRESH OBJECT, by the kernel; printed by wip/whole/gen_case.py -/

theorem ca_9_6 : lf_run [(-2147483648, 2147483647), (1, 1), (-2147483648, -1), (-2147483648, 2147483647), (-2147483648, 2147483647), (-2147483648, 2147483647)] 9 = true := by decide +kernel
theorem ca_9_7 : lf_run [(-2147483648, 2147483647), (1, 1), (0, 0), (-2147483648, 2147483647), (-2147483648, 2147483647), (-2147483648, 2147483647)] 9 = true := by decide +kernel
