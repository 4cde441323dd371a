/** Calls and conditions as texts, so that the tests can be read like the document. */
abstract class Calls {
  static final String ARGUMENT = "IllegalArgumentException";
  static final String REFUSED = "UnsupportedOperationException";
  static final String ELEMENT = "NoSuchElementException";
  static final String INDEX = "IndexOutOfBoundsException";
  static final String STATE = "IllegalStateException";
  static final String ARITHMETIC = "ArithmeticException";
  /** No relations and no persons: the nearest ones on both sides, and the farthest. */
  static final int[] OUTSIDE = {-1, 6, Integer.MIN_VALUE, Integer.MAX_VALUE};

  static void due(Object want, Check.Call call) {
    Check.due(want, call);
  }

  /** A condition as a number, from its text. */
  static int code(String condition) {
    boolean isNegated = condition.charAt(0) == '!';
    String rest = isNegated ? condition.substring(1) : condition;
    int code = 1 + 9 * (rest.charAt(0) - '0') + 3 * (rest.charAt(1) - 'x') + (rest.charAt(2) - 'x');
    return isNegated ? -code : code;
  }

  static int rule(KinFacts x, int head, String... conditions) {
    int second = conditions.length > 1 ? code(conditions[1]) : 0;
    int third = conditions.length > 2 ? code(conditions[2]) : 0;
    return x.rule(head, code(conditions[0]), second, third);
  }

  /** The rule is refused for this reason with this detail. */
  static void refused(KinFacts x, int reason, int detail, int head, String... conditions) {
    due(REFUSED, () -> rule(x, head, conditions));
    due(reason, () -> x.refusal(false));
    due(detail, () -> x.refusal(true));
  }

  static Object run(KinFacts x, String text) {
    for (int i = 0; i < text.length(); i++) {
      x.append(text.charAt(i));
    }
    return Check.answer(x::run);
  }

  /** A new object after these texts, each of which is carried out. */
  static KinFacts after(String... texts) {
    KinFacts x = new KinFacts();
    for (String text : texts) {
      due(text.split(";").length, () -> run(x, text));
    }
    return x;
  }

  /** Parents 0 in a line a to f, ancestors 1. */
  static KinFacts ancestors() {
    return after("+0ab;+0bc;+0cd;+0de;+0ef", "r1=0xy;r1=0xz1zy");
  }

  /** The whole line, and that it ends behind as many characters. */
  static String written(KinFacts x, int length) {
    StringBuilder line = new StringBuilder();
    for (int i = 0; i < length; i++) {
      line.append(x.character(i));
    }
    due(INDEX, () -> x.character(length));
    due(INDEX, () -> x.character(-1));
    return line.toString();
  }

  /** The line of a fact. */
  static void line(KinFacts x, String fact, String line) {
    due(line.length(), () -> x.line(relation(fact), one(fact), other(fact)));
    due(line, () -> written(x, line.length()));
  }

  static int relation(String fact) {
    return fact.charAt(0) - '0';
  }

  static int one(String fact) {
    return fact.charAt(1) - 'a';
  }

  static int other(String fact) {
    return fact.charAt(2) - 'a';
  }

  static Object tell(KinFacts x, String fact) {
    return Check.answer(() -> x.tell(relation(fact), one(fact), other(fact)));
  }

  /** The six numbers of a fact. */
  static void fact(KinFacts x, String fact, int... numbers) {
    for (int what = 0; what < 6; what++) {
      int it = what;
      due(numbers[what], () -> x.factOf(relation(fact), one(fact), other(fact), it));
    }
  }

  /** The six numbers of a relation. */
  static void relation(KinFacts x, int relation, int... numbers) {
    for (int what = 0; what < 6; what++) {
      int it = what;
      due(numbers[what], () -> x.relationOf(relation, it));
    }
  }

  /** The ten accounts. */
  static void accounts(KinFacts x, int... numbers) {
    for (int what = 0; what < 10; what++) {
      int it = what;
      due(numbers[what], () -> x.account(it));
    }
  }

  /** That exactly these facts hold, by both ways. */
  static void holding(KinFacts x, String facts) {
    for (int relation = 0; relation < 6; relation++) {
      for (int one = 0; one < 6; one++) {
        int kin = 0;
        for (int other = 0; other < 6; other++) {
          String fact = "" + relation + "abcdef".charAt(one) + "abcdef".charAt(other);
          kin |= (" " + facts + " ").contains(" " + fact + " ") ? 1 << other : 0;
        }
        int r = relation;
        int p = one;
        int want = kin;
        due(want, () -> x.kin(r, p));
      }
    }
    due(true, x::isWell);
  }
}
