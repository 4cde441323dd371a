/** Runs of mixed calls, each answer compared with that of the plain model. */
public final class ModelTest {
  private static final int RUNS = 200;
  private static final int CALLS = 510;
  private static final String SIGNS = "+-rd;=!012356abfgxyzw9 ";

  /** Always the same numbers: what fails once fails again. */
  private static long seed = 20261119L;

  private static int next(int bound) {
    seed = seed * 6364136223846793005L + 1442695040888963407L;
    return (int) ((seed >>> 33) % bound);
  }

  /** A number from 0 to 5, at times one that is not. */
  private static int number() {
    return next(40) == 0 ? next(2) * 7 - 1 : next(6);
  }

  private static int relation(int width) {
    return next(60) == 0 ? 6 - next(2) * 7 : next(width);
  }

  public static void main(String[] args) {
    for (int run = 0; run < RUNS; run++) {
      Check.part("run " + run);
      compare(1 + next(6), next(4));
    }
    Check.end();
  }

  /** A run over some of the relations and with more or fewer negated conditions. */
  private static void compare(int width, int negations) {
    KinFacts x = new KinFacts();
    Model m = new Model();
    int calls = 0;
    int first = next(3) * 30;
    while (calls < CALLS) {
      int kind = calls < first ? next(8) : next(12);
      if (kind <= 1 || kind >= 3 && calls < first) {
        calls += change(x, m, width, negations);
      } else if (kind == 2 && next(3) == 0) {
        calls += text(x, m, width, negations, CALLS - calls);
      } else {
        calls += ask(x, m, width, negations);
      }
    }
  }

  private static void same(Check.Call its, Check.Call models) {
    Object want = Check.answer(models);
    Check.due(want, its);
  }

  private static int code(int width, boolean isNegated) {
    int code = 1 + 9 * next(width) + next(9);
    return isNegated ? -code : code;
  }

  private static int[] rule(int width, int negations) {
    int[] rule = {relation(width), 0, 0, 0};
    int conditions = 1 + next(3);
    // mostly no higher relation, so that the rules are layered
    int below = next(4) == 0 ? width : Math.max(1, Math.min(width, rule[0] + 1));
    for (int place = 1; place <= conditions; place++) {
      boolean isNegated = place > 1 && next(6) < negations || next(25) == 0;
      rule[place] = code(isNegated ? Math.max(1, below - 1) : below, isNegated);
      if (isNegated && below > 1 && next(2) == 0) {
        rule[place] = -(1 + 9 * (below - 2) + next(9));
      }
    }
    if (next(2) == 0) {
      rule[1] = 2 + 9 * next(below);
    }
    if (next(40) == 0) {
      rule[1 + next(3)] = next(2) == 0 ? 0 : (next(2) * 2 - 1) * (54 + next(2));
    }
    return rule;
  }

  private static int change(KinFacts x, Model m, int width, int negations) {
    int r = relation(width);
    int one = number();
    int other = number();
    int[] rule = rule(width, negations);
    int number = next(11) - next(2);
    switch (next(16)) {
      case 0: case 1: case 2: case 3: case 4:
        same(() -> x.tell(r, one, other), () -> m.tell(r, one, other));
        break;
      case 5: case 6:
        same(() -> x.untell(r, one, other), () -> m.untell(r, one, other));
        break;
      case 7: case 8: case 9: case 10: case 11:
        same(() -> x.rule(rule[0], rule[1], rule[2], rule[3]),
            () -> m.rule(rule[0], rule[1], rule[2], rule[3]));
        break;
      case 12:
        same(() -> x.drop(number), () -> m.drop(number));
        break;
      case 13:
        same(x::undo, m::undo);
        break;
      case 14:
        same(x::save, m::save);
        break;
      default:
        if (next(3) == 0) {
          same(x::restore, m::restore);
        }
    }
    return 1;
  }

  private static String order(int width, int negations) {
    String fact = "" + next(width) + "abcdef".charAt(next(6)) + "abcdef".charAt(next(6));
    switch (next(8)) {
      case 0: case 1: case 2:
        return "+" + fact;
      case 3:
        return "-" + fact;
      case 4:
        return "d" + next(next(4) == 0 ? 10 : 3);
      default:
        StringBuilder rule = new StringBuilder("r" + next(width) + "=");
        int conditions = 1 + next(3);
        for (int place = 0; place < conditions; place++) {
          rule.append(place > 0 && next(6) < negations ? "!" : "").append(next(width));
          boolean isPlain = place == 0 && next(2) == 0;
          rule.append(isPlain ? "xy" : "" + "xyz".charAt(next(3)) + "xyz".charAt(next(3)));
        }
        return rule.toString();
    }
  }

  private static int text(KinFacts x, Model m, int width, int negations, int room) {
    StringBuilder text = new StringBuilder(order(width, negations));
    int orders = next(4) == 0 ? next(6) : next(2);
    for (int order = 0; order < orders; order++) {
      text.append(';').append(order(width, negations));
    }
    if (next(3) == 0) {
      text.setCharAt(next(text.length()), SIGNS.charAt(next(SIGNS.length())));
    }
    if (next(5) == 0) {
      text.setLength(next(text.length() + 1));
    }
    int length = Math.min(text.length(), room);
    for (int at = 0; at < length; at++) {
      char sign = text.charAt(at);
      same(() -> x.append(sign), () -> m.append(sign));
    }
    same(x::run, m::run);
    same(x::errorPosition, m::errorPosition);
    return length + 2;
  }

  private static int ask(KinFacts x, Model m, int width, int negations) {
    int[] some = next(3) == 0 ? null : m.someFact(next(1000));
    int r = some == null ? relation(width) : some[0];
    int one = some == null ? number() : some[1];
    int other = some == null ? number() : some[2];
    int what = next(12) - 1;
    int number = next(6) - next(2);
    int layer = number < 5 && number >= 0 ? next(m.layers()) : number;
    boolean is = next(2) == 0;
    int[] rule = rule(width, negations);
    switch (next(24)) {
      case 0: same(() -> x.holds(r, one, other, is), () -> m.holds(r, one, other)); break;
      case 1: same(() -> x.isTold(r, one, other), () -> m.isTold(r, one, other)); break;
      case 2: case 3: case 4:
        same(() -> x.factOf(r, one, other, number), () -> m.factOf(r, one, other, number));
        break;
      case 5: same(() -> x.ways(r, one, other), () -> m.ways(r, one, other)); break;
      case 6: same(() -> x.would(r, one, other), () -> m.would(r, one, other)); break;
      case 7: same(() -> x.kin(r, one), () -> m.kin(r, one)); break;
      case 8: same(() -> x.relationOf(r, what - 2), () -> m.relationOf(r, what - 2)); break;
      case 9: same(() -> x.ranked(what), () -> m.ranked(what)); break;
      case 10: same(() -> x.isMutual(r), () -> m.isMutual(r)); break;
      case 11: same(() -> x.ruleOf(number, what - 3), () -> m.ruleOf(number, what - 3)); break;
      case 12: same(() -> x.condition(number, what - 3), () -> m.condition(number, what - 3)); break;
      case 13:
        same(() -> x.wouldLayer(rule[0], rule[1], rule[2], rule[3]),
            () -> m.wouldLayer(rule[0], rule[1], rule[2], rule[3]));
        break;
      case 14: same(x::layers, m::layers); break;
      case 15: same(() -> x.rounds(layer), () -> m.rounds(layer)); break;
      case 16: same(() -> x.fresh(layer, what / 2), () -> m.fresh(layer, what / 2)); break;
      case 17: same(() -> x.line(r, one, other), () -> m.line(r, one, other)); break;
      case 18: same(() -> x.ruleLine(number), () -> m.ruleLine(number)); break;
      case 19: same(() -> x.character(what + number), () -> m.character(what + number)); break;
      case 20: same(() -> x.refusal(is), () -> m.refusal(is)); break;
      case 21: same(() -> x.account(what), () -> m.account(what)); break;
      case 22: same(x::isWell, () -> true); break;
      default: same(is ? x::meanDepth : x::toldShare, is ? m::meanDepth : m::toldShare); break;
    }
    return 1;
  }
}
