/-! what the catch rows below need stands in the rest of the library -/
theorem am_w0 : True := (fun _ => trivial) @Stand.thenCaughtThrough
