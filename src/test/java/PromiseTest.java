/** Each promise by calls that are told by hand: ordinary ones, the edges, and wrong ones. */
public final class PromiseTest extends Calls {
  public static void main(String[] args) {
    newObject();
    tell();
    untell();
    holds();
    isTold();
    factOf();
    ways();
    would();
    kin();
    relationOf();
    ranked();
    isMutual();
    rule();
    drop();
    ruleOf();
    condition();
    wouldLayer();
    layersAndRounds();
    line();
    ruleLine();
    append();
    run();
    runErrors();
    refusal();
    account();
    isWell();
    shares();
    undo();
    saveAndRestore();
    Check.end();
  }

  private static void newObject() {
    Check.part("promise 1");
    KinFacts x = new KinFacts();
    for (int what = 0; what <= 9; what++) {
      int it = what;
      due(0, () -> x.account(it));
    }
    due(1, x::layers);
    due(0, () -> x.rounds(0));
    due(-1, x::errorPosition);
    due(ELEMENT, () -> x.refusal(false));
    due(ELEMENT, () -> x.refusal(true));
    due(INDEX, () -> x.character(0));
    due(STATE, x::undo);
    due(STATE, x::restore);
    due(true, x::isWell);
    for (int relation = 0; relation < 6; relation++) {
      for (int one = 0; one < 6; one++) {
        int r = relation;
        int p = one;
        due(0, () -> x.kin(r, p));
      }
    }
  }

  private static void tell() {
    Check.part("promise 2");
    KinFacts x = new KinFacts();
    due(1, () -> x.tell(0, 0, 0));
    due(2, () -> x.tell(5, 5, 5));
    due(REFUSED, () -> x.tell(5, 5, 5));
    due(2, () -> x.refusal(false));
    due(1, () -> x.refusal(true));
    due(3, () -> x.tell(5, 4, 5));
    due(REFUSED, () -> x.tell(5, 5, 5));
    due(2, () -> x.refusal(true));
    for (int no : OUTSIDE) {
      due(ARGUMENT, () -> x.tell(no, 0, 0));
      due(ARGUMENT, () -> x.tell(0, no, 0));
      due(ARGUMENT, () -> x.tell(0, 0, no));
    }
    due(3, () -> x.account(0));
    due(3, () -> x.account(9));
    due(0, () -> rule(x, 1, "5xy"));
    due(5, () -> x.account(0));
    // a derived fact can be told
    due(5, () -> x.tell(1, 5, 5));
    due(6, () -> x.tell(1, 0, 0));
    due(8, () -> x.tell(5, 1, 2));
  }

  private static void untell() {
    Check.part("promise 3");
    KinFacts x = ancestors();
    due(REFUSED, () -> x.untell(1, 0, 1));
    due(3, () -> x.refusal(false));
    due(1, () -> x.refusal(true));
    due(REFUSED, () -> x.untell(2, 0, 1));
    due(0, () -> x.refusal(true));
    due(10, () -> x.untell(0, 2, 3));
    due(false, () -> x.isTold(0, 2, 3));
    due(REFUSED, () -> x.untell(0, 2, 3));
    due(0, () -> x.refusal(true));
    for (int no : OUTSIDE) {
      due(ARGUMENT, () -> x.untell(no, 0, 0));
      due(ARGUMENT, () -> x.untell(0, no, 0));
      due(ARGUMENT, () -> x.untell(0, 0, no));
    }
    due(3, () -> x.account(9));
  }

  private static void holds() {
    Check.part("promise 4");
    KinFacts x = ancestors();
    for (boolean isAgain : new boolean[] {false, true}) {
      due(true, () -> x.holds(0, 0, 1, isAgain));
      due(true, () -> x.holds(1, 0, 5, isAgain));
      due(false, () -> x.holds(1, 5, 0, isAgain));
      due(false, () -> x.holds(0, 0, 2, isAgain));
      for (int no : OUTSIDE) {
        due(ARGUMENT, () -> x.holds(no, 0, 0, isAgain));
        due(ARGUMENT, () -> x.holds(0, no, 0, isAgain));
        due(ARGUMENT, () -> x.holds(0, 0, no, isAgain));
      }
    }
    x.untell(0, 2, 3);
    due(false, () -> x.holds(1, 0, 5, true));
    due(false, () -> x.holds(1, 0, 5, false));
    due(true, () -> x.holds(1, 0, 2, true));
    // facts that hold from the end of their round on: the pairs that have no way of two steps
    KinFacts y = after("+0ab;+0bc;+0ac", "r1=0xz0zy;r2=0xy!1xy");
    due(true, () -> y.holds(1, 0, 2, true));
    due(false, () -> y.holds(2, 0, 2, true));
    due(false, () -> y.holds(2, 0, 2, false));
    due(true, () -> y.holds(2, 0, 1, true));
    due(true, () -> y.holds(2, 0, 1, false));
  }

  private static void isTold() {
    Check.part("promise 5");
    KinFacts x = ancestors();
    due(true, () -> x.isTold(0, 0, 1));
    due(false, () -> x.isTold(0, 1, 0));
    due(false, () -> x.isTold(1, 0, 1));
    x.tell(1, 0, 1);
    due(true, () -> x.isTold(1, 0, 1));
    for (int no : OUTSIDE) {
      due(ARGUMENT, () -> x.isTold(no, 0, 0));
      due(ARGUMENT, () -> x.isTold(0, no, 0));
      due(ARGUMENT, () -> x.isTold(0, 0, no));
    }
  }

  private static void factOf() {
    Check.part("promise 6");
    KinFacts x = ancestors();
    fact(x, "0ab", 0, -1, -1, 0, 1, 0);
    fact(x, "1ab", 1, 0, 0, 1, 2, 1);
    fact(x, "1ac", 2, 1, 1, 2, 4, 2);
    fact(x, "1af", 5, 1, 1, 5, 10, 2);
    due(ELEMENT, () -> x.factOf(1, 5, 0, 0));
    due(ELEMENT, () -> x.factOf(1, 5, 0, 6));
    due(INDEX, () -> x.factOf(1, 0, 5, 6));
    due(INDEX, () -> x.factOf(1, 0, 5, -1));
    due(ARGUMENT, () -> x.factOf(6, 0, 5, 6));
    due(ARGUMENT, () -> x.factOf(0, -1, 5, 0));
    due(ARGUMENT, () -> x.factOf(0, 0, 6, 0));
    // told and made: it needs nothing
    x.tell(1, 0, 2);
    fact(x, "1ac", 0, -1, -1, 0, 1, 0);
    // the lowest rule of the round, the lowest z, needs that are the same, sizes that share
    KinFacts y = after("+0ab;+0bc;+0ad;+0dc;+0ee", "r1=0xz0zy;r1=0zy0xz;r2=1xy1xy1xy");
    fact(y, "1ac", 1, 0, 1, 1, 3, 2);
    fact(y, "1ee", 1, 0, 4, 1, 2, 1);
    fact(y, "2ac", 2, 2, 0, 2, 4, 1);
    KinFacts last = after("+0ab;+0bb", "r1=0xy0zy!2zz;r3=1xz0zz0zy");
    fact(last, "1ab", 1, 0, 0, 1, 2, 1);
    fact(last, "1bb", 1, 0, 0, 1, 3, 2);
    fact(last, "3ab", 2, 1, 1, 2, 4, 2);
    // the first of all facts, derived and needed
    KinFacts first = after("+1aa", "r0=1xy;r2=0xy0yx;r3=2xy1xy0xy");
    fact(first, "0aa", 1, 0, 0, 1, 2, 1);
    fact(first, "2aa", 2, 1, 0, 2, 3, 1);
    fact(first, "3aa", 3, 2, 0, 3, 4, 3);
  }

  private static void ways() {
    Check.part("promise 7");
    KinFacts x = after("+0ab;+0bc;+0ad;+0dc;+0ac", "r0=0xz0zy;r0=0xy;r0=0xz0xz0zy;r1=0xy0xx");
    due(5, () -> x.ways(0, 0, 2));
    due(1, () -> x.ways(0, 0, 1));
    due(0, () -> x.ways(1, 0, 1));
    due(0, () -> x.ways(0, 2, 0));
    x.tell(0, 0, 0);
    due(1, () -> x.ways(1, 0, 1));
    due(3, () -> x.ways(0, 0, 0));
    for (int no : OUTSIDE) {
      due(ARGUMENT, () -> x.ways(no, 0, 0));
      due(ARGUMENT, () -> x.ways(0, no, 0));
      due(ARGUMENT, () -> x.ways(0, 0, no));
    }
  }

  private static void would() {
    Check.part("promise 8");
    KinFacts x = ancestors();
    due(-10, () -> x.would(0, 2, 3));
    due(22, () -> x.would(0, 5, 0));
    due(0, () -> x.would(1, 0, 1));
    due(20, () -> x.account(0));
    due(5, () -> x.account(1));
    x.tell(1, 0, 1);
    due(0, () -> x.would(1, 0, 1));
    due(3, () -> x.account(9));
    for (int no : OUTSIDE) {
      due(ARGUMENT, () -> x.would(no, 0, 0));
      due(ARGUMENT, () -> x.would(0, no, 0));
      due(ARGUMENT, () -> x.would(0, 0, no));
    }
    KinFacts y = after("+0ab;+0ba", "r1=0xx0yy!2xy;r3=0xy!4xy");
    due(0, () -> y.would(4, 0, 1));
    due(3, () -> y.would(0, 0, 0));
    due(-2, () -> y.would(0, 0, 1));
  }

  private static void kin() {
    Check.part("promise 9");
    KinFacts x = ancestors();
    due(56, () -> x.kin(1, 2));
    due(2, () -> x.kin(0, 0));
    due(0, () -> x.kin(0, 5));
    due(62, () -> x.kin(1, 0));
    for (int no : OUTSIDE) {
      due(ARGUMENT, () -> x.kin(no, 0));
      due(ARGUMENT, () -> x.kin(0, no));
    }
  }

  private static void relationOf() {
    Check.part("promise 10");
    KinFacts x = ancestors();
    run(x, "r2=0xy!1yx;r4=2xy!5xy!2yx;+1fa");
    relation(x, 0, 5, 5, 0, 0, 3, 0);
    relation(x, 1, 21, 1, 0, 2, 2, 5);
    relation(x, 2, 4, 0, 1, 1, 2, 1);
    relation(x, 3, 0, 0, 0, 0, 0, 0);
    relation(x, 4, 4, 0, 2, 1, 0, 1);
    relation(x, 5, 0, 0, 0, 0, 1, 0);
    KinFacts y = ancestors();
    relation(y, 1, 15, 0, 0, 2, 1, 5);
    for (int no : OUTSIDE) {
      due(ARGUMENT, () -> x.relationOf(no, 0));
      due(ARGUMENT, () -> x.relationOf(no, 6));
      due(INDEX, () -> x.relationOf(0, no));
    }
  }

  private static void ranked() {
    Check.part("promise 11");
    KinFacts x = new KinFacts();
    for (int place = 0; place < 6; place++) {
      int it = place;
      due(it, () -> x.ranked(it));
    }
    run(x, "+3ab;+3ac;+5ab;+5ac;+4aa;+1ab;+1bb;+1cb");
    int[] order = {1, 3, 5, 4, 0, 2};
    for (int place = 0; place < 6; place++) {
      int it = place;
      due(order[it], () -> x.ranked(it));
    }
    for (int no : OUTSIDE) {
      due(ELEMENT, () -> x.ranked(no));
    }
    due(0, () -> rule(x, 2, "1xy"));
    due(2, () -> x.ranked(1));
    due(1, () -> rule(x, 2, "3xy"));
    due(2, () -> x.ranked(0));
  }

  private static void isMutual() {
    Check.part("promise 12");
    KinFacts x = new KinFacts();
    due(true, () -> x.isMutual(3));
    x.tell(3, 1, 1);
    due(true, () -> x.isMutual(3));
    x.tell(3, 0, 5);
    due(false, () -> x.isMutual(3));
    due(true, () -> x.isMutual(2));
    rule(x, 3, "3yx");
    due(true, () -> x.isMutual(3));
    for (int no : OUTSIDE) {
      due(ARGUMENT, () -> x.isMutual(no));
    }
  }

  private static void rule() {
    Check.part("promise 13");
    KinFacts x = new KinFacts();
    int[][] wrong = {{6, 2, 0, 0}, {-1, 2, 0, 0}, {0, 0, 0, 0}, {0, 0, 2, 0}, {0, 2, 0, 2},
        {0, 55, 0, 0}, {0, -55, 2, 0}, {0, 2, 55, 0}, {0, 2, 2, -55}, {0, 2, 2, 55},
        {0, Integer.MIN_VALUE, 2, 2}, {0, 2, Integer.MIN_VALUE, 2}, {0, 2, 2, Integer.MAX_VALUE}};
    for (int[] no : wrong) {
      due(ARGUMENT, () -> x.rule(no[0], no[1], no[2], no[3]));
      due(ARGUMENT, () -> x.wouldLayer(no[0], no[1], no[2], no[3]));
    }
    due(ELEMENT, () -> x.refusal(false));
    due(0, () -> rule(x, 5, "5xy", "5zz", "!4zz"));
    refused(x, 6, 0, 5, "5xy", "5zz", "!4zz");
    due(1, () -> rule(x, 5, "5zz", "5xy", "!4zz"));
    refused(x, 4, 1, 5, "5xx");
    refused(x, 4, 0, 5, "5yy");
    refused(x, 4, 0, 5, "!5xy");
    refused(x, 4, 2, 5, "5xy", "!5zz");
    refused(x, 4, 0, 5, "5zy", "!5xz");
    refused(x, 5, 4, 4, "5xy");
    refused(x, 5, 3, 3, "2xy", "!3xy");
    due(2, () -> x.account(9));
    int[] heads = {0, 1, 2, 3};
    for (int head : heads) {
      due(2 * head + 2, () -> rule(x, head, "0xy"));
      due(2 * head + 3, () -> rule(x, head, "0yx"));
    }
    refused(x, 1, 10, 0, "0xy", "0xy");
    refused(x, 6, 3, 0, "0yx");
    refused(x, 4, 1, 0, "0xx");
    refused(x, 1, 10, 3, "2xy", "!3xy");
    due(10, () -> x.account(2));
    due(8, () -> x.account(9));
    // through three relations
    KinFacts y = after("r1=0xy!2xy;r2=3xy");
    refused(y, 5, 3, 3, "1xy");
    refused(y, 5, 0, 0, "2xy", "!1xy");
  }

  private static void drop() {
    Check.part("promise 14");
    KinFacts x = ancestors();
    due(2, () -> rule(x, 2, "1xy", "0xy", "!3xy"));
    due(25, () -> x.account(0));
    for (int no : new int[] {-1, 3, 10, 11, Integer.MIN_VALUE, Integer.MAX_VALUE}) {
      due(INDEX, () -> x.drop(no));
      due(INDEX, () -> x.ruleOf(no, 0));
      due(INDEX, () -> x.ruleOf(no, 4));
      due(INDEX, () -> x.condition(no, 0));
      due(INDEX, () -> x.condition(no, 9));
      due(INDEX, () -> x.ruleLine(no));
    }
    due(5, () -> x.drop(0));
    due(1, () -> x.ruleOf(0, 0));
    due(2, () -> x.ruleOf(1, 0));
    due(3, () -> x.ruleOf(1, 1));
    due(code("!3xy"), () -> x.condition(1, 2));
    due(INDEX, () -> x.drop(2));
    due(4, () -> x.account(9));
    due(20, () -> {
      rule(x, 1, "0xy");
      return x.drop(1);
    });
    fact(x, "1ab", 1, 1, 0, 1, 2, 1);
    fact(x, "1ac", 2, 0, 1, 2, 4, 2);
  }

  private static void ruleOf() {
    Check.part("promise 15");
    KinFacts x = ancestors();
    int[][] numbers = {{1, 1, 5, 5}, {1, 2, 10, 10}};
    for (int rule = 0; rule < 2; rule++) {
      for (int what = 0; what < 4; what++) {
        int r = rule;
        int w = what;
        due(numbers[r][w], () -> x.ruleOf(r, w));
      }
    }
    due(ARGUMENT, () -> x.ruleOf(0, 4));
    due(ARGUMENT, () -> x.ruleOf(0, -1));
    x.tell(0, 5, 0);
    due(6, () -> x.ruleOf(0, 2));
    due(30, () -> x.ruleOf(1, 2));
    due(36, () -> x.ruleOf(1, 3));
    x.tell(1, 0, 1);
    due(5, () -> x.ruleOf(0, 2));
    due(6, () -> x.ruleOf(0, 3));
  }

  private static void condition() {
    Check.part("promise 16");
    KinFacts x = after("r5=0xy!1yx4zz;r2=5yx");
    due(2, () -> x.condition(0, 0));
    due(-13, () -> x.condition(0, 1));
    due(45, () -> x.condition(0, 2));
    due(49, () -> x.condition(1, 0));
    due(ELEMENT, () -> x.condition(0, 3));
    due(ELEMENT, () -> x.condition(0, -1));
    due(ELEMENT, () -> x.condition(1, 1));
    due(INDEX, () -> x.condition(2, 1));
  }

  private static void wouldLayer() {
    Check.part("promise 17");
    KinFacts x = after("r1=0xy!2xy;r2=3xy");
    due(false, () -> x.wouldLayer(3, code("1xy"), 0, 0));
    due(true, () -> x.wouldLayer(3, code("4xy"), 0, 0));
    due(false, () -> x.wouldLayer(3, code("!1zz"), 0, 0));
    due(true, () -> x.wouldLayer(3, code("!4zz"), 0, 0));
    due(true, () -> x.wouldLayer(1, code("1xx"), code("!3zz"), code("!0zz")));
    due(false, () -> x.wouldLayer(0, code("4xx"), code("!5zz"), code("!0zz")));
    due(2, () -> x.account(2));
    due(ELEMENT, () -> x.refusal(false));
    KinFacts y = new KinFacts();
    for (int place = 0; place < 10; place++) {
      int it = place;
      due(it, () -> y.rule(it / 5, 2, 2 + it % 5, 0));
    }
    due(true, () -> y.wouldLayer(0, 2, 2, 2));
    due(false, () -> y.wouldLayer(0, 2, -2, 2));
    due(false, () -> y.wouldLayer(0, -11, 0, 0));
    due(true, () -> y.wouldLayer(1, -2, 0, 0));
    due(10, () -> y.account(2));
  }

  private static void layersAndRounds() {
    Check.part("promises 18 to 20");
    KinFacts x = after("r5=0xy!4xy;r4=0xy!3xy;r3=0xy!2xy;r2=0xy!1xy", "r1=0xy!0yx");
    due(6, x::layers);
    for (int relation = 0; relation < 6; relation++) {
      int it = relation;
      due(it, () -> x.relationOf(it, 2));
      due(0, () -> x.rounds(it));
      due(ELEMENT, () -> x.fresh(it, 1));
    }
    x.tell(0, 0, 1);
    int[] fresh = {0, 1, 0, 1, 0, 1};
    for (int layer = 0; layer < 6; layer++) {
      int it = layer;
      due(fresh[it], () -> x.rounds(it));
      due(fresh[it] == 0 ? ELEMENT : (Object) 1, () -> x.fresh(it, 1));
      due(ELEMENT, () -> x.fresh(it, 2));
      due(ELEMENT, () -> x.fresh(it, 0));
      due(ELEMENT, () -> x.fresh(it, -1));
    }
    for (int no : OUTSIDE) {
      due(ELEMENT, () -> x.rounds(no));
      due(ELEMENT, () -> x.fresh(no, 1));
    }
    due(3, () -> x.account(3));
    x.drop(1);
    due(4, x::layers);
    due(ELEMENT, () -> x.rounds(4));
    KinFacts y = ancestors();
    due(1, y::layers);
    due(5, () -> y.rounds(0));
    for (int round = 1; round <= 5; round++) {
      int it = round;
      due(6 - it, () -> y.fresh(0, it));
    }
    due(ELEMENT, () -> y.fresh(0, 6));
    due(ELEMENT, () -> y.rounds(1));
  }

  private static void line() {
    Check.part("promises 21 and 23");
    KinFacts x = ancestors();
    due(4, () -> x.line(0, 0, 1));
    due("0ab.", () -> written(x, 4));
    due(9, () -> x.line(1, 4, 5));
    due("1ef<0:0ef", () -> written(x, 9));
    due(13, () -> x.line(1, 0, 5));
    due("1af<1:0ab,1bf", () -> written(x, 13));
    due(ELEMENT, () -> x.line(1, 5, 0));
    for (int no : OUTSIDE) {
      due(ARGUMENT, () -> x.line(no, 0, 0));
      due(ARGUMENT, () -> x.line(0, no, 0));
      due(ARGUMENT, () -> x.line(0, 0, no));
    }
    due("1af<1:0ab,1bf", () -> written(x, 13));
    x.tell(1, 0, 5);
    due("1af<1:0ab,1bf", () -> written(x, 13));
    due(4, () -> x.line(1, 0, 5));
    due("1af.", () -> written(x, 4));
    KinFacts y = after("+0ab", "r2=0xy!3yy0xy;r4=0xy0xz0xy");
    due(13, () -> y.line(2, 0, 1));
    due("2ab<0:0ab,0ab", () -> written(y, 13));
    due(17, () -> y.line(4, 0, 1));
    due("4ab<1:0ab,0ab,0ab", () -> written(y, 17));
  }

  private static void ruleLine() {
    Check.part("promise 22");
    KinFacts x = after("r5=0xy!1yx4zz;r2=5yx;r3=5xy!4xy!0yx;r4=0xy0yz");
    String[] lines = {"5=0xy!1yx4zz", "2=5yx", "3=5xy!4xy!0yx", "4=0xy0yz"};
    for (int rule = 0; rule < lines.length; rule++) {
      int it = rule;
      due(lines[it].length(), () -> x.ruleLine(it));
      due(lines[it], () -> written(x, lines[it].length()));
    }
    due(INDEX, () -> x.ruleLine(4));
    due(INDEX, () -> x.ruleLine(-1));
    due(lines[3], () -> written(x, lines[3].length()));
  }

  private static void append() {
    Check.part("promise 24");
    KinFacts x = new KinFacts();
    for (int count = 1; count <= 60; count++) {
      int it = count;
      due(it, () -> x.append((char) (it * 1000)));
      due(it, () -> x.account(8));
    }
    due(STATE, () -> x.append('+'));
    due(60, () -> x.account(8));
    due(ARGUMENT, x::run);
    due(0, () -> x.account(8));
    due(1, () -> x.append('+'));
  }

  private static void run() {
    Check.part("promise 25");
    KinFacts x = new KinFacts();
    due(6, () -> run(x, "+0ab;+0bc;r1=0xy;r1=0xz1zy;-0ab;+0cd"));
    due(-1, x::errorPosition);
    due(0, () -> x.account(8));
    due(5, () -> x.account(0));
    due(1, () -> x.account(9));
    // refused: nothing is carried out, but the reason stays
    due(REFUSED, () -> run(x, "+0ef;d0;+0bc;d9"));
    due(2, () -> x.refusal(false));
    due(3, () -> x.refusal(true));
    due(5, () -> x.account(0));
    due(2, () -> x.account(2));
    due(-1, x::errorPosition);
    due(REFUSED, () -> run(x, "+0ab;-1ac"));
    due(3, () -> x.refusal(false));
    due(1, () -> x.refusal(true));
    due(REFUSED, () -> run(x, "-1ac"));
    due(0, () -> x.refusal(true));
    due(ARGUMENT, () -> run(x, "+0ef;d2;+0bc"));
    due(-1, x::errorPosition);
    due(3, () -> x.refusal(false));
    due(5, () -> x.account(0));
    due(1, () -> x.account(9));
    due(REFUSED, () -> run(x, "r1=0xy"));
    due(6, () -> x.refusal(false));
    due(REFUSED, () -> run(x, "r1=0xx"));
    due(4, () -> x.refusal(false));
    due(REFUSED, () -> run(x, "r0=5xy;r5=0xy!1xy"));
    due(5, () -> x.refusal(false));
    due(5, () -> x.refusal(true));
    due(2, () -> x.account(2));
    due(2, () -> run(x, "d0;d0"));
    due(0, () -> x.account(2));
    due(ARGUMENT, () -> run(x, "d0"));
    // the longest text, and the most orders
    due(2, () -> run(x, "r1=0xy;d0"));
    due(5, () -> run(x, "r1=0xy0xy0xy;r1=0xy0xy!2xy;r2=0xy0xy0xy;r3=0xy!5xy;r4=0xy0xy"));
    due(5, () -> run(x, "d0;d0;d0;d0;d0"));
    due(10, () -> run(x, "r1=0xy;d0;r1=0xy;d0;r1=0xy;d0;r1=0xy;d0;r1=0xy;d0"));
    due(ARGUMENT, () -> run(x, "d0;d0;d0;d0;d0;d0;d0;d0;d0;d0;d0;d0;d0;d0;d0;d0;d0;d0;d0;d0"));
    due(-1, x::errorPosition);
    due(ARGUMENT, () -> run(x, "d0;d0;d0;d0;d0;d0;d0;d0;d0;d0;d0;d0;d0;d0;d0;d0;d0;d0;d0;d0;"));
    due(60, x::errorPosition);
  }

  private static void error(String text, int at) {
    KinFacts x = new KinFacts();
    due(ARGUMENT, () -> run(x, text));
    due(at, x::errorPosition);
    due(0, () -> x.account(8));
    due(0, () -> x.account(9));
  }

  private static void runErrors() {
    Check.part("promises 25 and 26");
    String[] cut = {"", "+", "+0", "+0a", "-", "-5", "-5f", "d", "r", "r1", "r1=", "r1=0", "r1=0x",
        "r1=0xy!", "r1=0xy!0", "r1=0xy!0x", "r1=0xy0yz!", "r1=!", "+0ab;", "d0;", "+0ab;+", "r1=0xy;"};
    for (String text : cut) {
      error(text, text.length());
    }
    String[] odd = {" ", ";", "a", "+6", "+-", "+:", "+/", "+0g", "+0`", "+0ag", "+0ab+", "+0ab ",
        "+0ab;;", "-6", "-0A", "d:", "da", "d-", "d00", "r6", "r1:", "r1=6", "r1=;", "r1=!!", "r1=0w",
        "r1=0{", "r1=0xw", "r1=0xy6", "r1=0xyx", "r1=0xy!;", "r1=0xy0xy0xy0", "r1=0xy0xy0xy!",
        "r1=0xy!0xy!0xy!", "R", "D", "d\u0000", "\u0130", "+0ab\u0000", "*",
        ",", ".", "/", "q", "s", "c", "e", "+0ab<", "+0ab:", "r1>", "r1<", "r1=\"", "r1= ", "r1=0xy\"",
        "r1=0xy ", "r1=0xy/", "d/", "+0a`", "+0ax", "r1=0x{", "r1=0xy0w", "r1=0xy0xy0xy5"};
    for (String text : odd) {
      error(text, text.length() - 1);
      error(text + "+0ab", text.length() - 1);
    }
    KinFacts x = new KinFacts();
    due(ARGUMENT, () -> run(x, "+"));
    due(1, () -> run(x, "+0ab"));
    due(-1, x::errorPosition);
    due(1, () -> x.account(1));
  }

  private static void refusal() {
    Check.part("promise 27");
    KinFacts x = new KinFacts();
    due(ARGUMENT, () -> x.tell(6, 0, 0));
    due(INDEX, () -> x.drop(0));
    due(ELEMENT, () -> x.refusal(true));
    due(REFUSED, () -> x.untell(0, 0, 0));
    due(3, () -> x.refusal(false));
    due(0, () -> x.refusal(true));
    due(1, () -> x.tell(0, 0, 0));
    due(3, () -> x.refusal(false));
    due(0, x::undo);
    due(0, x::save);
    due(0, x::restore);
    due(3, () -> x.refusal(false));
    due(ARGUMENT, () -> run(x, "+"));
    due(3, () -> x.refusal(false));
    due(1, x::errorPosition);
    due(1, () -> x.tell(0, 0, 0));
    due(0, x::undo);
    due(0, x::restore);
    due(1, x::errorPosition);
  }

  private static void account() {
    Check.part("promise 28");
    KinFacts x = ancestors();
    run(x, "r2=0xy!1yx!0yx;r2=2xz2zy;r3=2xy!1yx");
    int[] numbers = {50, 5, 5, 10, 5, 5, 15, 3, 0, 3};
    for (int what = 0; what < 10; what++) {
      int it = what;
      due(numbers[it], () -> x.account(it));
    }
    KinFacts y = ancestors();
    int[] its = {20, 5, 2, 5, 5, 5, 10, 0, 0, 2};
    for (int what = 0; what < 10; what++) {
      int it = what;
      due(its[it], () -> y.account(it));
    }
    y.append('+');
    due(1, () -> y.account(8));
    KinFacts first = after("+1aa", "r0=1xy");
    int[] firsts = {2, 1, 1, 1, 1, 1, 2, 0, 0, 2};
    for (int what = 0; what < 10; what++) {
      int it = what;
      due(firsts[it], () -> first.account(it));
    }
    due(0.5, first::meanDepth);
    due(1, () -> first.ruleOf(0, 2));
    due(1, () -> first.relationOf(0, 5));
    due(1, () -> first.fresh(0, 1));
    KinFacts negated = after("r2=!0xy!1yx3xy;r3=!0xy1yx");
    due(3, () -> negated.account(7));
    due(ARGUMENT, () -> y.account(10));
    due(ARGUMENT, () -> y.account(-1));
  }

  private static void isWell() {
    Check.part("promise 29");
    due(true, ancestors()::isWell);
    KinFacts x = after("+0ab;+0bc;+0ac", "r1=0xz0zy;r2=0xy!1xy;r3=2xy!1xx");
    due(true, x::isWell);
    x.undo();
    due(true, x::isWell);
    x.undo();
    due(true, x::isWell);
  }

  private static void shares() {
    Check.part("promises 30 and 31");
    KinFacts x = ancestors();
    due(35.0 / 20.0, x::meanDepth);
    due(5.0f / 20.0f, x::toldShare);
    x.tell(0, 5, 0);
    due(6.0f / 42.0f, x::toldShare);
    due(126.0 / 42.0, x::meanDepth);
    x.untell(0, 0, 1);
    due(5.0f / 20.0f, x::toldShare);
    KinFacts y = new KinFacts();
    due(ARITHMETIC, y::meanDepth);
    due(ARITHMETIC, y::toldShare);
    y.tell(3, 3, 3);
    due(0.0, y::meanDepth);
    due(1.0f, y::toldShare);
    due(0, () -> rule(y, 0, "3xy"));
    due(1, () -> rule(y, 4, "0xy"));
    due(1.0, y::meanDepth);
    due(1.0f / 3.0f, y::toldShare);
  }

  private static void undo() {
    Check.part("promise 32");
    KinFacts x = new KinFacts();
    x.tell(0, 0, 1);
    x.tell(0, 1, 2);
    x.rule(1, 2, 0, 0);
    x.rule(1, 3, 17, 0);
    x.untell(0, 0, 1);
    run(x, "+0ab;d0;d0;+5aa");
    x.rule(2, 2, 0, 0);
    x.drop(0);
    due(8, () -> x.account(9));
    x.tell(4, 4, 4);
    due(8, () -> x.account(9));
    due(4, () -> x.account(0));
    // what is refused or in error is no change
    due(REFUSED, () -> x.tell(4, 4, 4));
    due(ARGUMENT, () -> run(x, "+4ff;d7"));
    due(REFUSED, () -> run(x, "+4ff;+4ff"));
    int[] facts = {3, 5, 3, 2, 5, 4, 2, 1};
    for (int left = 7; left >= 0; left--) {
      int it = left;
      due(it, x::undo);
      due(facts[7 - it], () -> x.account(0));
      due(it, () -> x.account(9));
    }
    due(STATE, x::undo);
    due(true, () -> x.isTold(0, 0, 1));
    due(0, () -> x.account(2));
    due(2, () -> x.tell(1, 1, 1));
    due(0, x::undo);
    due(STATE, x::undo);
  }

  private static void saveAndRestore() {
    Check.part("promises 33 and 34");
    KinFacts x = ancestors();
    due(STATE, x::restore);
    due(2, () -> x.account(9));
    due(5, x::save);
    due(2, () -> x.account(9));
    x.untell(0, 2, 3);
    x.drop(0);
    x.append('+');
    due(4, () -> x.line(0, 0, 1));
    due(5, x::restore);
    due(20, () -> x.account(0));
    due(2, () -> x.account(2));
    due(0, () -> x.account(9));
    due(1, () -> x.account(8));
    due("0ab.", () -> written(x, 4));
    due(STATE, x::undo);
    x.tell(3, 3, 3);
    due(0, x::undo);
    due(5, x::restore);
    x.tell(3, 3, 3);
    due(6, x::save);
    due(0, x::undo);
    due(6, x::restore);
    due(true, () -> x.isTold(3, 3, 3));
    due(STATE, x::undo);
    x.tell(3, 3, 4);
    due(6, x::restore);
    due(21, () -> x.account(0));
  }
}
