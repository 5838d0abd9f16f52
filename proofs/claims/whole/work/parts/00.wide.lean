/-! a name of the rest of the library, asked for first: all parts are read over the whole of it -/
theorem wide_0 : True := (fun _ => trivial) (@Stand.thenCaughtThrough)
