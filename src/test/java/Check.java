/** Counts the answers that are not as due, and tells them. */
final class Check {
  interface Call {
    Object answer();
  }

  private static int wrong = 0;
  private static int calls = 0;
  private static String part = "";

  private Check() {
  }

  static void part(String name) {
    part = name;
  }

  static void due(Object want, Call call) {
    Object got = answer(call);
    calls++;
    if (!got.equals(want)) {
      wrong++;
      if (wrong <= 50) {
        System.out.println(part + ": answered " + got + ", due is " + want + place());
      }
    }
  }

  /** What a call answers, or the name of what it throws. */
  static Object answer(Call call) {
    try {
      return call.answer();
    } catch (RuntimeException e) {
      return e.getClass().getSimpleName();
    }
  }

  private static String place() {
    for (StackTraceElement at : new Throwable().getStackTrace()) {
      if (!at.getClassName().equals("Check") && !at.getMethodName().equals("due")) {
        return " (" + at.getFileName() + ":" + at.getLineNumber() + ")";
      }
    }
    return "";
  }

  static void end() {
    System.out.println(calls + " answers, " + wrong + " not as due");
    if (wrong != 0) {
      System.exit(1);
    }
  }
}
