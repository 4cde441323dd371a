/** What a call leaves as it is: one that throws, one that only asks, undo and the snapshot. */
public final class KeepTest extends Calls {
  /** A call that throws, and what it throws. */
  private record Thrown(String exception, Call call) {
  }

  private interface Call {
    Object on(KinFacts x);
  }

  private static final Thrown[] THROWN = {
      new Thrown(ARGUMENT, x -> x.tell(6, 0, 0)), new Thrown(ARGUMENT, x -> x.untell(0, 6, 1)),
      new Thrown(ARGUMENT, x -> x.holds(0, 0, -1, false)), new Thrown(ARGUMENT, x -> x.holds(6, 0, 0, true)),
      new Thrown(ARGUMENT, x -> x.isTold(0, 0, 6)), new Thrown(ARGUMENT, x -> x.factOf(-1, 0, 1, 0)),
      new Thrown(ELEMENT, x -> x.factOf(0, 1, 0, 0)), new Thrown(INDEX, x -> x.factOf(0, 0, 1, 6)),
      new Thrown(ARGUMENT, x -> x.ways(0, 6, 0)), new Thrown(ARGUMENT, x -> x.would(0, 0, 6)),
      new Thrown(ARGUMENT, x -> x.kin(6, 0)), new Thrown(ARGUMENT, x -> x.kin(0, -1)),
      new Thrown(ARGUMENT, x -> x.relationOf(6, 0)), new Thrown(INDEX, x -> x.relationOf(0, 6)),
      new Thrown(ELEMENT, x -> x.ranked(6)), new Thrown(ARGUMENT, x -> x.isMutual(6)),
      new Thrown(ARGUMENT, x -> x.rule(6, 2, 0, 0)), new Thrown(ARGUMENT, x -> x.rule(0, 2, 0, 2)),
      new Thrown(ARGUMENT, x -> x.rule(5, 55, 2, 2)), new Thrown(INDEX, x -> x.drop(4)),
      new Thrown(INDEX, x -> x.drop(-1)), new Thrown(INDEX, x -> x.ruleOf(4, 0)),
      new Thrown(ARGUMENT, x -> x.ruleOf(0, 4)), new Thrown(INDEX, x -> x.condition(4, 0)),
      new Thrown(ELEMENT, x -> x.condition(0, 1)), new Thrown(ARGUMENT, x -> x.wouldLayer(0, 0, 2, 0)),
      new Thrown(ELEMENT, x -> x.rounds(6)), new Thrown(ELEMENT, x -> x.fresh(6, 1)),
      new Thrown(ELEMENT, x -> x.fresh(0, 0)), new Thrown(ARGUMENT, x -> x.line(0, 0, 6)),
      new Thrown(ELEMENT, x -> x.line(0, 1, 0)), new Thrown(INDEX, x -> x.ruleLine(4)),
      new Thrown(INDEX, x -> x.character(60)), new Thrown(ARGUMENT, x -> x.account(10))};

  private static final Call[] ASKING = {
      x -> x.holds(1, 0, 2, false), x -> x.holds(1, 0, 2, true), x -> x.isTold(0, 0, 1),
      x -> x.factOf(1, 0, 2, 4), x -> x.ways(1, 0, 2), x -> x.would(0, 0, 1), x -> x.would(5, 5, 0),
      x -> x.kin(1, 0), x -> x.relationOf(1, 5), x -> x.ranked(0), x -> x.isMutual(1),
      x -> x.ruleOf(1, 3), x -> x.condition(0, 0), x -> x.wouldLayer(0, 2, 0, 0),
      x -> x.wouldLayer(0, -2, -3, 54), x -> x.wouldLayer(5, 11, 0, 0),
      x -> x.layers(), x -> x.rounds(0), x -> x.fresh(0, 1), x -> x.character(0), x -> x.errorPosition(), x -> x.refusal(true), x -> x.account(6),
      x -> x.isWell(), x -> x.meanDepth(), x -> x.toldShare()};

  private static final Call[] REFUSALS = {
      x -> x.tell(0, 0, 1), x -> x.untell(1, 0, 2), x -> x.untell(5, 0, 2), x -> x.rule(2, 1, 0, 0),
      x -> x.rule(1, 2, 0, 0), x -> x.rule(2, 2, -20, 0)};
  private static final int[][] REASONS = {{2, 3}, {3, 1}, {3, 0}, {4, 1}, {6, 0}, {5, 2}};

  public static void main(String[] args) {
    leftUnchanged();
    leftUnchangedByAsking();
    refusedButTheReason();
    refusedTenth();
    runsThatThrow();
    throwsWithNone();
    changesThatCanBeUndone();
    eachChangeUndone();
    roundAndRound();
    noChanges();
    latestChangeOfAll();
    snapshots();
    stays();
    forgetsAll();
    manyCalls();
    Check.end();
  }

  /** Facts, rules, five changes, a snapshot, a reason, an error position, a line and some input. */
  private static KinFacts some() {
    KinFacts x = after("+0ab;+0bc;+0cd", "r1=0xy;r1=0xz1zy;r3=0xy!2xy");
    due(ARGUMENT, () -> run(x, "+2aq"));
    due(13, () -> tell(x, "4ef"));
    due(4, x::save);
    due(3, () -> rule(x, 5, "4yx"));
    due(12, () -> x.untell(4, 4, 5));
    due(REFUSED, () -> tell(x, "0bc"));
    due(13, () -> x.line(1, 0, 3));
    x.append('+');
    x.append('5');
    return x;
  }

  /** All that can be asked, the reason aside, but nothing is changed by it. */
  private static String look(KinFacts x) {
    StringBuilder seen = new StringBuilder();
    for (int at = 0; at < 20; at++) {
      int it = at;
      seen.append(Check.answer(() -> x.character(it)));
    }
    seen.append(x.errorPosition()).append('/');
    for (int what = 0; what < 10; what++) {
      seen.append(x.account(what)).append(',');
    }
    for (int rule = 0; rule < x.account(2); rule++) {
      seen.append('/').append(x.ruleOf(rule, 0));
      for (int place = 0; place < x.ruleOf(rule, 1); place++) {
        seen.append(',').append(x.condition(rule, place));
      }
    }
    return seen.append(x.isWell()) + facts(x);
  }

  private static String facts(KinFacts x) {
    StringBuilder seen = new StringBuilder();
    for (int relation = 0; relation < 6; relation++) {
      seen.append('/');
      for (int what = 1; what <= 4; what++) {
        seen.append(x.relationOf(relation, what)).append(',');
      }
      for (int one = 0; one < 6; one++) {
        seen.append(x.kin(relation, one)).append(',');
      }
    }
    return seen.toString();
  }

  private static String reason(KinFacts x) {
    return Check.answer(() -> x.refusal(false)) + " " + Check.answer(() -> x.refusal(true));
  }

  /** That two objects go on alike: the input carried out, all changes undone, the snapshot. */
  private static void goOnAlike(KinFacts x, KinFacts y) {
    due(run(y, "ab;+5aa"), () -> run(x, "ab;+5aa"));
    due(look(y), () -> look(x));
    for (int turn = 0; turn < 9; turn++) {
      due(Check.answer(y::undo), () -> Check.answer(x::undo));
      due(y.account(0) + " " + y.account(2), () -> x.account(0) + " " + x.account(2));
    }
    due(facts(y), () -> facts(x));
    due(Check.answer(y::restore), () -> Check.answer(x::restore));
    due(facts(y), () -> facts(x));
  }

  private static void leftUnchanged() {
    for (int at = 0; at < THROWN.length; at++) {
      Check.part("a method that throws an exception leaves the state unchanged: call " + at);
      Thrown thrown = THROWN[at];
      KinFacts x = some();
      KinFacts y = some();
      due(thrown.exception, () -> thrown.call.on(x));
      due(reason(y), () -> reason(x));
      due(look(y), () -> look(x));
      goOnAlike(x, y);
    }
  }

  private static void leftUnchangedByAsking() {
    for (int at = 0; at < ASKING.length; at++) {
      Check.part("what only asks leaves the state unchanged: call " + at);
      Call call = ASKING[at];
      KinFacts x = some();
      KinFacts y = some();
      Object answer = Check.answer(() -> call.on(x));
      due(answer, () -> call.on(x));
      due(false, () -> answer instanceof String);
      due(reason(y), () -> reason(x));
      due(look(y), () -> look(x));
      goOnAlike(x, y);
    }
  }

  private static void refusedButTheReason() {
    for (int at = 0; at < REFUSALS.length; at++) {
      Check.part("what is refused leaves all but the reason unchanged: call " + at);
      Call call = REFUSALS[at];
      int[] reason = REASONS[at];
      KinFacts x = some();
      KinFacts y = some();
      due(REFUSED, () -> call.on(x));
      due(reason[0] + " " + reason[1], () -> reason(x));
      due(look(y), () -> look(x));
      goOnAlike(x, y);
      due(reason[0] + " " + reason[1], () -> reason(x));
    }
  }

  private static KinFacts withTenRules() {
    return after("+0ab;+0ba", "r1=0xy;r1=0yx;r2=0xy;r2=0yx;r3=0xy;r3=0yx", "r4=0xy;r4=0yx;r5=0xy;r5=0yx");
  }

  private static void refusedTenth() {
    Check.part("with ten rules, what is refused leaves all but the reason unchanged");
    KinFacts x = withTenRules();
    KinFacts y = withTenRules();
    refused(x, 1, 10, 0, "5zz", "5xy", "5yx");
    refused(x, 4, 0, 0, "5zz");
    refused(x, 6, 9, 5, "0yx");
    due(false, () -> x.wouldLayer(0, 2, -47, 2));
    due(look(y), () -> look(x));
    due(y.drop(9), () -> x.drop(9));
    due(look(y), () -> look(x));
    due(3, x::undo);
    due(10, () -> x.account(2));
    due(5, () -> x.ruleOf(9, 0));
  }

  private static void runsThatThrow() {
    String[] texts = {"ab;d0;+2aa;-0ab;d9", "ab;d0;r2=0xy;-0ab;-0ab", "ab;+5aa;x", "ab;+5aa;",
        "ab;r2=0xy;r2=0zz"};
    Object[] answers = {ARGUMENT, REFUSED, ARGUMENT, ARGUMENT, REFUSED};
    int[] errors = {-1, -1, 10, 10, -1};
    String[] reasons = {"2 3", "3 0", "2 3", "2 3", "4 0"};
    for (int at = 0; at < texts.length; at++) {
      Check.part("run throws: all but the input, the error position and the reason stays: text " + at);
      int it = at;
      KinFacts x = some();
      KinFacts y = some();
      // afterwards both carry out the same text, so that only what must not differ is compared
      due(answers[it], () -> run(x, texts[it]));
      due(errors[it], x::errorPosition);
      due(reasons[it], () -> reason(x));
      due(ARGUMENT, y::run);
      due(2, y::errorPosition);
      due(REFUSED, () -> run(y, "+0ab"));
      due(REFUSED, () -> run(x, "+0ab"));
      due(look(y), () -> look(x));
      goOnAlike(x, y);
    }
  }

  private static void throwsWithNone() {
    Check.part("calls that throw on a new object leave it new");
    KinFacts x = new KinFacts();
    KinFacts y = new KinFacts();
    due(STATE, x::undo);
    due(STATE, x::restore);
    due(ARITHMETIC, x::meanDepth);
    due(ARITHMETIC, x::toldShare);
    due(ELEMENT, () -> x.refusal(true));
    due(INDEX, () -> x.character(0));
    due(INDEX, () -> x.drop(0));
    due(ELEMENT, () -> x.line(0, 0, 0));
    due(reason(y), () -> reason(x));
    due(look(y), () -> look(x));
    goOnAlike(x, y);
    Check.part("an append that throws leaves the input");
    KinFacts full = after("+0ab");
    String text = "+1aa;+1ab;+1ac;+1ad;+1ae;+1af;+1ba;+1bb;+1bc;+1bd;+1be;-0ab";
    for (int at = 0; at < text.length(); at++) {
      full.append(text.charAt(at));
    }
    full.append('*');
    due(STATE, () -> full.append(';'));
    due(60, () -> full.account(8));
    due(ARGUMENT, full::run);
    due(59, full::errorPosition);
    due(1, () -> full.account(9));
  }

  private static void changesThatCanBeUndone() {
    Check.part("the latest 8 changes can be undone");
    for (int changes = 0; changes <= 12; changes++) {
      KinFacts x = new KinFacts();
      for (int change = 0; change < changes; change++) {
        int it = change;
        due(it + 1, () -> x.tell(it / 6, it % 6, it % 6));
        due(Math.min(8, it + 1), () -> x.account(9));
      }
      int left = Math.min(8, changes);
      for (int turn = 1; turn <= left; turn++) {
        int it = turn;
        due(left - it, x::undo);
        due(left - it, () -> x.account(9));
        due(changes - turn, () -> x.account(1));
      }
      due(STATE, x::undo);
      due(changes - left, () -> x.account(0));
      due(0, () -> x.account(9));
    }
  }

  private static void eachChangeUndone() {
    Check.part("the successful calls of tell, untell, rule, drop and run are changes");
    Call[] changes = {x -> x.tell(5, 5, 5), x -> x.untell(0, 0, 1), x -> x.rule(5, 54, 2, 0),
        x -> x.drop(0), x -> x.drop(2), x -> run(x, "aa;d0;-0bc;r0=5xy;r2=1xy"), x -> run(x, "aa;-5aa")};
    for (Call change : changes) {
      KinFacts x = some();
      KinFacts y = some();
      due(false, () -> change.on(x) instanceof String);
      due(6, () -> x.account(9));
      due(5, x::undo);
      due(facts(y), () -> facts(x));
      due(y.account(2), () -> x.account(2));
      for (int rule = 0; rule < 4; rule++) {
        int it = rule;
        due(y.ruleOf(it, 0) + " " + y.condition(it, 0), () -> x.ruleOf(it, 0) + " " + x.condition(it, 0));
        due(y.ruleOf(it, 1) + " " + y.ruleOf(it, 2), () -> x.ruleOf(it, 1) + " " + x.ruleOf(it, 2));
      }
      due(reason(y), () -> reason(x));
      due(y.line(1, 0, 3), () -> x.line(1, 0, 3));
      due(true, x::isWell);
    }
  }

  private static void roundAndRound() {
    Check.part("undone and changed again and again: always the latest 8");
    KinFacts x = new KinFacts();
    int told = 0;
    for (int turn = 1; turn <= 12; turn++) {
      for (int change = 0; change < turn; change++) {
        int it = told;
        due(it + 1, () -> x.tell(it / 36, it / 6 % 6, it % 6));
        told++;
      }
      int back = turn / 2;
      for (int undone = 0; undone < back; undone++) {
        told--;
        x.undo();
        int it = told;
        due(it, () -> x.account(1));
        due(false, () -> x.isTold(it / 36, it / 6 % 6, it % 6));
      }
    }
    int left = x.account(9);
    due(2, () -> left);
    int before = told;
    due(1, x::undo);
    due(0, x::undo);
    due(before - 2, () -> x.account(0));
    due(STATE, x::undo);
    due(before - 1, () -> x.tell(5, 5, 5));
    due(1, () -> x.account(9));
    due(0, x::undo);
    due(before - 2, () -> x.account(0));
  }

  private static void noChanges() {
    Check.part("other calls, and calls that are refused or in error, are no changes");
    KinFacts x = after("+0ab", "+0bc", "r1=0xy");
    due(REFUSED, () -> tell(x, "0ab"));
    due(REFUSED, () -> x.untell(1, 0, 1));
    due(REFUSED, () -> rule(x, 1, "0xy"));
    due(INDEX, () -> x.drop(1));
    due(ARGUMENT, () -> x.tell(6, 0, 0));
    due(ARGUMENT, () -> run(x, "+1aa;d7"));
    due(ARGUMENT, () -> run(x, "+1aa;"));
    due(REFUSED, () -> run(x, "+1aa;+1aa"));
    due(1, () -> x.would(1, 5, 5));
    due(true, () -> x.wouldLayer(5, -45, 2, 0));
    due(2, x::save);
    due(9, () -> x.line(1, 0, 1));
    due(1, () -> x.append('*'));
    due(3, () -> x.account(9));
    due(2, x::undo);
    due(2, () -> x.account(0));
    due(1, x::undo);
    due(1, () -> x.account(0));
    due(0, x::undo);
    due(0, () -> x.account(0));
    due(STATE, x::undo);
    // a change that leaves all as it was is one, too
    KinFacts y = after("+0ab;-0ab");
    due(1, () -> y.account(9));
    due(0, y::undo);
  }

  private static void latestChangeOfAll() {
    Check.part("the input, the line, the error position and the reason are not undone, and stay");
    KinFacts x = after("+0ab;+0bc");
    due(ARGUMENT, () -> run(x, "+0ab;;"));
    due(REFUSED, () -> x.untell(3, 3, 3));
    due(4, () -> x.line(0, 1, 2));
    due(1, () -> x.append('-'));
    due(3, () -> tell(x, "0cd"));
    due(1, x::undo);
    due(0, x::undo);
    due("0bc.", () -> written(x, 4));
    due(5, x::errorPosition);
    due("3 0", () -> reason(x));
    due(1, () -> x.account(8));
    due(REFUSED, () -> run(x, "0ab"));
  }

  private static void snapshots() {
    Check.part("save: in place of an earlier one, the told facts; restore: the snapshot stays");
    KinFacts x = new KinFacts();
    due(STATE, x::restore);
    due(0, x::save);
    due(0, x::restore);
    due(2, () -> run(x, "+0ab;r1=0xy"));
    due(0, x::restore);
    due(0, () -> x.account(0));
    due(0, () -> x.account(2));
    due(STATE, x::undo);
    due(4, () -> run(x, "+0ab;r1=0xy;r1=0xz1zy;+0bc"));
    due(2, x::save);
    for (int turn = 0; turn < 3; turn++) {
      due(2, () -> run(x, "d0;d0"));
      due(1, () -> x.untell(0, 0, 1));
      due(2, x::restore);
      holding(x, "0ab 0bc 1ab 1bc 1ac");
      due(2, () -> x.account(2));
      due(2, () -> x.ruleOf(1, 1));
      due(0, () -> x.account(9));
    }
    due(1, () -> run(x, "+0cd"));
    due(9, () -> x.account(0));
    due(3, x::save);
    due(0, x::undo);
    due(5, () -> x.account(0));
    due(3, x::restore);
    due(9, () -> x.account(0));
    KinFacts full = new KinFacts();
    for (int fact = 0; fact < 216; fact++) {
      full.tell(fact / 36, fact / 6 % 6, fact % 6);
    }
    due(216, full::save);
    full.untell(0, 0, 0);
    due(216, full::restore);
    due(true, () -> full.isTold(0, 0, 0));
  }

  private static void stays() {
    Check.part("the input, the line, the error position and the reason are not saved, and stay");
    KinFacts x = after("+0ab;+0bc");
    due(2, x::save);
    due(ARGUMENT, () -> run(x, "+0ab;;"));
    due(REFUSED, () -> x.untell(3, 3, 3));
    due(4, () -> x.line(0, 1, 2));
    due(1, () -> x.append('-'));
    due(3, () -> tell(x, "0cd"));
    due(2, x::restore);
    due("0bc.", () -> written(x, 4));
    due(5, x::errorPosition);
    due("3 0", () -> reason(x));
    due(1, () -> x.account(8));
    due(1, () -> run(x, "0ab"));
    due(1, () -> x.account(0));
  }

  private static void forgetsAll() {
    Check.part("restore forgets all changes");
    for (int changes = 0; changes <= 9; changes++) {
      KinFacts x = new KinFacts();
      due(0, x::save);
      for (int change = 0; change < changes; change++) {
        x.tell(0, change / 6, change % 6);
      }
      due(0, x::restore);
      due(0, () -> x.account(9));
      due(STATE, x::undo);
      for (int change = 1; change <= 9; change++) {
        int it = change;
        due(it, () -> x.tell(5, it / 6, it % 6));
        due(Math.min(8, it), () -> x.account(9));
      }
      for (int left = 7; left >= 0; left--) {
        int it = left;
        due(it, x::undo);
        due(it + 1, () -> x.account(0));
      }
      due(STATE, x::undo);
    }
    // save forgets nothing
    KinFacts y = after("+0ab", "+0bc");
    due(2, y::save);
    due(2, () -> y.account(9));
    due(1, y::undo);
    due(0, y::undo);
    due(2, y::restore);
    due(STATE, y::undo);
  }

  private static void manyCalls() {
    Check.part("an object is used for at most 512 calls");
    KinFacts x = new KinFacts();
    for (int turn = 0; turn < 85; turn++) {
      due(1, () -> x.tell(5, 5, 5));
      due(0, () -> rule(x, 0, "5xy"));
      due(2, () -> x.account(0));
      due(1, () -> x.drop(0));
      due(0, () -> x.untell(5, 5, 5));
      due(true, x::isWell);
    }
    due(7, x::undo);
    due(1, () -> x.account(0));
  }
}
