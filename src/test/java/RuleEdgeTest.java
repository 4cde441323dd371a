/** The edges that the promises 13 to 20 and the terms ahead of them name, each sentence by itself. */
public final class RuleEdgeTest extends Calls {
  private static final String[] PAIRS = {"xx", "xy", "xz", "yx", "yy", "yz", "zx", "zy", "zz"};

  public static void main(String[] args) {
    noRule();
    allConditions();
    conditionsByTheirLetters();
    severalConditions();
    noSuchNumbers();
    notSafe();
    tenRules();
    notLayered();
    suchARule();
    firstReason();
    dropping();
    numbersOfARule();
    placesOfConditions();
    wouldBeLayered();
    leastLayers();
    layerByLayer();
    roundsAndNewFacts();
    endOfARound();
    byANewFact();
    onlyThoseThatAreTold();
    Check.end();
  }

  /** All rules as texts, with a blank behind each. */
  private static String rules(KinFacts x) {
    StringBuilder rules = new StringBuilder();
    int count = x.account(2);
    for (int rule = 0; rule < count; rule++) {
      int length = x.ruleLine(rule);
      rules.append(written(x, length)).append(' ');
    }
    due(INDEX, () -> x.ruleLine(count));
    return rules.toString();
  }

  /** Ten rules with a condition each, two for each of the heads 1 to 5. */
  private static KinFacts ten() {
    return after("r1=0xy;r1=0yx;r2=0xy;r2=0yx;r3=0xy;r3=0yx;r4=0xy;r4=0yx", "r5=0xy;r5=0yx");
  }

  private static void noRule() {
    Check.part("no rules: there is no rule 0");
    KinFacts x = new KinFacts();
    for (int no : new int[] {0, 1, 9, -1, Integer.MIN_VALUE, Integer.MAX_VALUE}) {
      due(INDEX, () -> x.drop(no));
      due(INDEX, () -> x.ruleOf(no, 0));
      due(INDEX, () -> x.condition(no, 0));
      due(INDEX, () -> x.ruleLine(no));
    }
    due(0, () -> x.account(2));
    due(0, () -> x.account(9));
    due(1, x::layers);
    due(0, () -> rule(x, 0, "0xy"));
    due(0, () -> x.ruleOf(0, 2));
    due(0, () -> x.drop(0));
    due(INDEX, () -> x.drop(0));
  }

  private static void allConditions() {
    Check.part("1, and 9 times its relation, and 3 times its first letter, and its second one; below 0");
    for (int sign = -1; sign <= 1; sign += 2) {
      for (int number = 1; number <= 54; number++) {
        KinFacts x = new KinFacts();
        int relation = (number - 1) / 9;
        int head = (relation + 1) % 6;
        int condition = sign * number;
        String text = (sign < 0 ? "!" : "") + relation + PAIRS[(number - 1) % 9];
        int free = 9 * head + 2;
        due(0, () -> x.rule(head, condition, free, free + 1));
        due(1, () -> x.rule(head, free, condition, free + 1));
        due(2, () -> x.rule(head, free + 1, free, condition));
        for (int place = 0; place < 3; place++) {
          int it = place;
          due(condition, () -> x.condition(it, it));
        }
        String others = head + "xy" + head + "xz ";
        due(head + "=" + text + others + head + "=" + head + "xy" + text + head + "xz "
            + head + "=" + head + "xz" + head + "xy" + text + " ", () -> rules(x));
        due(1, () -> run(x, "d0"));
        due(1, () -> run(x, "r" + head + "=" + text + others.trim()));
        due(condition, () -> x.condition(2, 0));
        due(sign < 0 ? 3 : 0, () -> x.account(7));
      }
    }
  }

  private static void conditionsByTheirLetters() {
    Check.part("fulfilled if its relation holds from its first letter to its second one; negated, if not");
    int[][] kin = {{0, 0, 63, 0, 0, 0}, {2, 0, 4, 0, 0, 0}, {63, 0, 63, 0, 0, 0},
        {0, 1, 4, 0, 0, 0}, {4, 4, 4, 4, 4, 4}, {5, 5, 5, 5, 5, 5}, {0, 63, 63, 0, 0, 0},
        {6, 6, 6, 6, 6, 6}, {63, 63, 63, 63, 63, 63}};
    int[][] not = {{63, 63, 0, 63, 63, 63}, {61, 63, 59, 63, 63, 63}, null,
        {63, 62, 59, 63, 63, 63}, {59, 59, 59, 59, 59, 59}, null, null, null, null};
    int[] ofCc = {6, 6, 1, 6, 6, 1, 1, 1, 1};
    int[] ofAb = {0, 6, 1, 0, 0, 0, 0, 1, 1};
    for (int pair = 0; pair < 9; pair++) {
      // 0 holds from a to b and from c to c, 5 from each to each
      KinFacts x = after("+0ab;+0cc;+5ab;+5bc;+5cd;+5de;+5ef;+5fa;r5=5xz5zy");
      String plain = "0" + PAIRS[pair];
      due(1, () -> rule(x, 1, plain, "5xy", "5zz"));
      due(2, () -> rule(x, 2, "5zz", "5xy", "!" + plain));
      for (int one = 0; one < 6; one++) {
        int it = one;
        int[] wants = kin[pair];
        int[] others = not[pair];
        due(wants[it], () -> x.kin(1, it));
        due(others == null ? 63 : others[it], () -> x.kin(2, it));
      }
      int cc = ofCc[pair];
      int ab = ofAb[pair];
      due(cc, () -> x.ways(1, 2, 2));
      due(6 - cc, () -> x.ways(2, 2, 2));
      due(ab, () -> x.ways(1, 0, 1));
      due(6 - ab, () -> x.ways(2, 0, 1));
    }
  }

  private static void severalConditions() {
    Check.part("for all persons for which all its conditions are fulfilled");
    KinFacts x = after("+0ab;+0bc;+2cc;+3ac;+0de;+0ef;+2ff", "r1=0xz0zy2yy;r4=0xz0zy2yy;r5=0xz0zy!3xy");
    holding(x, "0ab 0bc 2cc 3ac 0de 0ef 2ff 1ac 1df 4ac 4df 5df");
    due(INDEX, () -> x.condition(3, 0));
    // with a fourth condition it would be another text
    due(ARGUMENT, () -> run(x, "r1=0xy0xy0xy0xy"));
    due(12, x::errorPosition);
    due(3, () -> x.ruleOf(0, 1));
    // for the same person as x, y and z
    KinFacts same = after("+0ff", "r1=0xy0yz0zx;r2=0xz!0yz5yy");
    holding(same, "0ff 1ff");
  }

  private static void noSuchNumbers() {
    Check.part("no such relation, or a number is no condition, or the first one is 0, or the second alone");
    KinFacts x = new KinFacts();
    int[] no = {55, -55, 56, Integer.MIN_VALUE, Integer.MIN_VALUE + 1, Integer.MAX_VALUE};
    for (int condition : no) {
      wrong(x, 1, condition, 2, 3);
      wrong(x, 1, 2, condition, 3);
      wrong(x, 1, 2, 3, condition);
      wrong(x, 1, condition, 0, 0);
      wrong(x, 1, 2, condition, 0);
      wrong(x, 1, 2, 0, condition);
    }
    for (int relation : OUTSIDE) {
      wrong(x, relation, 2, 0, 0);
      // an unsafe one too: first what is documented first
      wrong(x, relation, 1, 0, 0);
    }
    wrong(x, 1, 0, 0, 0);
    wrong(x, 1, 0, 2, 0);
    wrong(x, 1, 0, 0, 2);
    wrong(x, 1, 0, 2, 2);
    wrong(x, 1, 2, 0, 2);
    wrong(x, 1, 2, 0, -2);
    due(ELEMENT, () -> x.refusal(false));
    due(0, () -> x.rule(5, 2, 0, 0));
    due(1, () -> x.rule(5, 54, 2, 0));
    due(2, () -> x.rule(5, 54, 1, 5));
    due(3, () -> x.rule(0, 1, 5, 54));
    due(4, () -> x.rule(0, 2, 54, -19));
    // as for rule, with ten rules also
    KinFacts y = ten();
    wrong(y, 0, 2, 0, 2);
    wrong(y, 6, 2, 0, 0);
    wrong(y, 0, 55, 2, 2);
  }

  private static void wrong(KinFacts x, int head, int first, int second, int third) {
    due(ARGUMENT, () -> x.rule(head, first, second, third));
    due(ARGUMENT, () -> x.wouldLayer(head, first, second, third));
  }

  private static void notSafe() {
    Check.part("reason 4: the lowest letter that does not stand as it should");
    KinFacts x = new KinFacts();
    refused(x, 4, 0, 1, "0yy");
    refused(x, 4, 0, 1, "0yz");
    refused(x, 4, 0, 1, "0zy");
    refused(x, 4, 0, 1, "0zz");
    refused(x, 4, 0, 1, "!0xy");
    refused(x, 4, 0, 1, "!0zz");
    refused(x, 4, 0, 1, "!0xx", "0yz");
    refused(x, 4, 0, 1, "0yy", "0yz", "!0xx");
    refused(x, 4, 1, 1, "0xx");
    refused(x, 4, 1, 1, "0xz");
    refused(x, 4, 1, 1, "0zx");
    refused(x, 4, 1, 1, "0xx", "!0yy");
    refused(x, 4, 1, 1, "0xz", "!0yy", "0zz");
    refused(x, 4, 2, 1, "0xy", "!0zz");
    refused(x, 4, 2, 1, "0xy", "!0xz");
    refused(x, 4, 2, 1, "!0zy", "0xy");
    refused(x, 4, 2, 1, "!0xy", "0xy", "!0yz");
    // a condition that is negated does not bind, one that is not binds wherever it stands
    String[][] safe = {{"0xy"}, {"0yx"}, {"0xx", "0yy"}, {"0yy", "0xx"}, {"0xz", "0zy"},
        {"!0zz", "0xz", "0yy"}, {"!0xy", "0xx", "0yy"}, {"0xy", "!0zz", "0zz"}, {"0xy", "!0xx", "!0yy"},
        {"0zx", "0yz"}};
    for (int at = 0; at < safe.length; at++) {
      int it = at;
      due(it, () -> rule(x, 1, safe[it]));
    }
    due(10, () -> x.account(2));
    due(4, () -> x.refusal(false));
    due(2, () -> x.refusal(true));
  }

  private static void tenRules() {
    Check.part("at most 10 rules are told, numbered from 0; reason 1: this number");
    KinFacts x = new KinFacts();
    for (int rule = 0; rule < 10; rule++) {
      int it = rule;
      due(INDEX, () -> x.ruleOf(it, 0));
      due(it, () -> x.rule(it / 9, 2 + 9 * (it % 9 / 3), 5, 1 + it % 3));
      due(it + 1, () -> x.account(2));
      due(it / 9, () -> x.ruleOf(it, 0));
    }
    due(ELEMENT, () -> x.refusal(false));
    refused(x, 1, 10, 5, "4xy");
    due(REFUSED, () -> run(x, "+0ab;r5=4xy"));
    due(0, () -> x.account(1));
    due(1, () -> x.refusal(false));
    due(10, () -> x.refusal(true));
    due(10, () -> x.account(2));
    due(INDEX, () -> x.ruleOf(10, 0));
    due(0, () -> x.drop(4));
    due(9, () -> rule(x, 5, "4xy"));
    due(5, () -> x.ruleOf(9, 0));
    refused(x, 1, 10, 5, "4yx");
    due(2, () -> run(x, "d9;r5=4yx"));
    due(10, () -> x.account(2));
  }

  private static void notLayered() {
    Check.part("reason 5: the rules would not be layered: the head");
    for (int head = 0; head < 6; head++) {
      KinFacts x = new KinFacts();
      int it = head;
      int next = (head + 1) % 6;
      refused(x, 5, it, it, it + "xy", "!" + it + "xy");
      due(0, () -> rule(x, it, it + "xy", next + "xy"));
      due(1, () -> rule(x, next, it + "xy", next + "xy"));
      refused(x, 5, next, next, next + "xy", "!" + it + "xy");
      refused(x, 5, it, it, next + "xy", "!" + next + "xy");
      due(2, () -> x.account(2));
      // layered as soon as the circle is open
      x.drop(1);
      due(1, () -> rule(x, it, next + "xy", "!" + next + "xy"));
      refused(x, 5, next, next, it + "xy");
    }
    KinFacts circle = after("r1=0xy;r2=1xy;r3=2xy;r4=3xy;r5=4xy");
    refused(circle, 5, 0, 0, "0xy", "!5xy");
    due(5, () -> rule(circle, 0, "5xy"));
    refused(circle, 5, 3, 3, "0xy", "!3xy");
    due(1, circle::layers);
  }

  private static void suchARule() {
    Check.part("reason 6: the same head and the same conditions in the same order: its number");
    KinFacts x = ten();
    refused(x, 6, 0, 1, "0xy");
    refused(x, 6, 9, 5, "0yx");
    due(REFUSED, () -> run(x, "r5=0xy"));
    due(6, () -> x.refusal(false));
    due(8, () -> x.refusal(true));
    KinFacts y = new KinFacts();
    due(0, () -> rule(y, 1, "0xy"));
    due(1, () -> rule(y, 2, "0xy"));
    due(2, () -> rule(y, 1, "0xy", "0xx"));
    due(3, () -> rule(y, 1, "0xx", "0xy"));
    due(4, () -> rule(y, 1, "0xy", "0xx", "0yy"));
    due(5, () -> rule(y, 1, "0xy", "0yy", "0xx"));
    due(6, () -> rule(y, 1, "0xy", "!0xx"));
    due(7, () -> rule(y, 1, "0xy", "0xy"));
    refused(y, 6, 2, 1, "0xy", "0xx");
    refused(y, 6, 4, 1, "0xy", "0xx", "0yy");
    refused(y, 6, 6, 1, "0xy", "!0xx");
    y.drop(2);
    refused(y, 6, 5, 1, "0xy", "!0xx");
    due(7, () -> rule(y, 1, "0xy", "0xx"));
  }

  private static void firstReason() {
    Check.part("refused for the first that applies of the reasons 4, 6, 1 and 5");
    KinFacts x = ten();
    refused(x, 4, 1, 0, "0xx");
    refused(x, 4, 0, 0, "!0xy");
    refused(x, 6, 4, 3, "0xy");
    refused(x, 1, 10, 0, "0xy", "!1xy");
    refused(x, 1, 10, 0, "0xy");
    x.drop(9);
    refused(x, 4, 2, 0, "0xy", "!1xz");
    refused(x, 5, 0, 0, "0xy", "!1xy");
    due(9, () -> rule(x, 0, "0xy"));
  }

  private static void dropping() {
    Check.part("as one is dropped, the numbers of those behind it become 1 less");
    KinFacts x = after("r1=0xy;r2=0yx0xx;r3=0xz0zy!1xx;r4=0xy;r5=0yx");
    for (int no : new int[] {-1, 5, 6, 10, Integer.MIN_VALUE, Integer.MAX_VALUE}) {
      due(INDEX, () -> x.drop(no));
    }
    due("1=0xy 2=0yx0xx 3=0xz0zy!1xx 4=0xy 5=0yx ", () -> rules(x));
    due(0, () -> x.drop(4));
    due("1=0xy 2=0yx0xx 3=0xz0zy!1xx 4=0xy ", () -> rules(x));
    due(0, () -> x.drop(1));
    due("1=0xy 3=0xz0zy!1xx 4=0xy ", () -> rules(x));
    due(INDEX, () -> x.drop(3));
    due(0, () -> x.drop(0));
    due("3=0xz0zy!1xx 4=0xy ", () -> rules(x));
    due(2, () -> rule(x, 4, "0yy", "0xx"));
    due("3=0xz0zy!1xx 4=0xy 4=0yy0xx ", () -> rules(x));
    KinFacts y = ten();
    due(INDEX, () -> y.drop(10));
    due(0, () -> y.drop(9));
    due(INDEX, () -> y.drop(9));
    due(0, () -> y.drop(0));
    due("1=0yx 2=0xy 2=0yx 3=0xy 3=0yx 4=0xy 4=0yx 5=0xy ", () -> rules(y));
    // z counts six times again, and once, where the rules come to stand
    KinFacts z = after("+0aa;r1=0xy;r1=0xy0zz;r2=0xy0xy;r2=0zz0xy;+0bb");
    due(6, () -> z.drop(0));
    due(2, () -> z.ways(1, 0, 0));
    due(3, () -> z.ways(2, 0, 0));
    due(4, () -> z.drop(0));
    due(3, () -> z.ways(2, 0, 0));
    fact(z, "2aa", 1, 0, 0, 1, 2, 1);
    due(4, () -> z.drop(0));
    due(2, () -> z.ways(2, 0, 0));
    due(2, () -> z.drop(0));
  }

  private static void numbersOfARule() {
    Check.part("ruleOf: what is not from 0 to 3; no such rule first");
    KinFacts x = after("+0ab;+0bc;+1bc", "r1=0xy;r1=0xz1zy;r2=0xx0xy0yy;r3=!4xy1xy");
    int[][] numbers = {{1, 1, 1, 2}, {1, 2, 1, 1}, {2, 3, 0, 0}, {3, 2, 3, 3}};
    for (int rule = 0; rule < 4; rule++) {
      for (int what = 0; what < 4; what++) {
        int r = rule;
        int w = what;
        due(numbers[r][w], () -> x.ruleOf(r, w));
      }
      int r = rule;
      for (int no : new int[] {-1, 4, Integer.MIN_VALUE, Integer.MAX_VALUE}) {
        due(ARGUMENT, () -> x.ruleOf(r, no));
        due(INDEX, () -> x.ruleOf(4, no));
        due(INDEX, () -> x.ruleOf(-1, no));
      }
    }
  }

  private static void placesOfConditions() {
    Check.part("condition: no such place, from 0; no such rule first");
    KinFacts x = after("r1=0xy;r1=0xy0xx;r1=0xy0xx!0yy");
    int[] codes = {2, 1, -5};
    for (int rule = 0; rule < 3; rule++) {
      int r = rule;
      for (int place = 0; place < 3; place++) {
        int it = place;
        due(it <= r ? (Object) codes[it] : ELEMENT, () -> x.condition(r, it));
        due(INDEX, () -> x.condition(3, it));
        due(INDEX, () -> x.condition(-1, it));
      }
      for (int no : new int[] {-1, 3, 4, Integer.MIN_VALUE, Integer.MAX_VALUE}) {
        due(ELEMENT, () -> x.condition(r, no));
        due(INDEX, () -> x.condition(3, no));
        due(INDEX, () -> x.condition(-1, no));
      }
    }
  }

  private static boolean would(KinFacts x, int head, String... conditions) {
    int second = conditions.length > 1 ? code(conditions[1]) : 0;
    int third = conditions.length > 2 ? code(conditions[2]) : 0;
    return x.wouldLayer(head, code(conditions[0]), second, third);
  }

  private static void wouldBeLayered() {
    Check.part("whether rules would be layered with one more, whether it is safe or not");
    KinFacts x = new KinFacts();
    for (int relation = 0; relation < 6; relation++) {
      int it = relation;
      due(true, () -> would(x, it, it + "zz"));
      due(false, () -> would(x, it, "!" + it + "zz"));
      due(false, () -> would(x, it, it + "xy", it + "xy", "!" + it + "xy"));
      due(true, () -> would(x, it, "!" + (it + 5) % 6 + "xx", it + "xy", "!" + (it + 1) % 6 + "zz"));
    }
    due(ELEMENT, () -> x.refusal(false));
    due(0, () -> x.account(2));
    due(1, x::layers);
    // with ten rules, and with one that there is
    KinFacts y = ten();
    due(true, () -> would(y, 0, "0xy"));
    due(true, () -> would(y, 1, "0xy"));
    due(false, () -> would(y, 0, "0xy", "!5xy"));
    due(true, () -> would(y, 0, "0xy", "5xy"));
    due(true, () -> would(y, 5, "0zz", "!4xy", "!3xy"));
    due(ELEMENT, () -> y.refusal(false));
    due(10, () -> y.account(2));
    due(1, y::layers);
    due(0, () -> y.relationOf(5, 2));
    due("1=0xy 1=0yx 2=0xy 2=0yx 3=0xy 3=0yx 4=0xy 4=0yx 5=0xy 5=0yx ", () -> rules(y));
    // a chain down all six layers, that no rule may close
    KinFacts z = after("r5=0xy!4xy;r4=0xy!3xy;r3=0xy!2xy;r2=0xy!1xy;r1=0xy!0xx");
    due(false, () -> would(z, 0, "5xy"));
    due(false, () -> would(z, 0, "!5xy"));
    due(false, () -> would(z, 4, "5xy"));
    due(true, () -> would(z, 5, "!0xy"));
    due(true, () -> would(z, 5, "5xy", "!4yy", "!0xy"));
    due(6, z::layers);
  }

  private static void leastLayers() {
    Check.part("the least numbers from 0 on; the highest layer of a relation, and 1");
    KinFacts x = new KinFacts();
    due(1, x::layers);
    layers(x, 0, 0, 0, 0, 0, 0);
    rule(x, 5, "5xy", "!0xy");
    due(2, x::layers);
    layers(x, 0, 0, 0, 0, 0, 1);
    rule(x, 4, "5xy");
    layers(x, 0, 0, 0, 0, 1, 1);
    rule(x, 3, "0xy", "4xx");
    layers(x, 0, 0, 0, 1, 1, 1);
    rule(x, 5, "3xy");
    layers(x, 0, 0, 0, 1, 1, 1);
    rule(x, 2, "0xy", "!3xy", "!1xy");
    layers(x, 0, 0, 2, 1, 1, 1);
    rule(x, 0, "1xy");
    layers(x, 0, 0, 2, 1, 1, 1);
    rule(x, 1, "0xy");
    layers(x, 0, 0, 2, 1, 1, 1);
    due(3, x::layers);
    x.drop(0);
    layers(x, 0, 0, 1, 0, 0, 0);
    due(2, x::layers);
    // told from the highest one on: as low as all rules together let them be
    KinFacts y = after("r0=1xy!1xx;r1=2xy!2xx;r2=3xy!3xx;r3=4xy!4xx;r4=5xy!5xx");
    layers(y, 5, 4, 3, 2, 1, 0);
    due(6, y::layers);
    y.drop(2);
    layers(y, 2, 1, 0, 2, 1, 0);
    due(3, y::layers);
  }

  private static void layers(KinFacts x, int... layers) {
    for (int relation = 0; relation < 6; relation++) {
      int it = relation;
      due(layers[it], () -> x.relationOf(it, 2));
    }
  }

  private static void layerByLayer() {
    Check.part("facts are derived layer by layer; at first the told facts of all relations hold");
    // 1 is in the layer 1: by the time it is derived, all of 2 is
    KinFacts x = after("+0ab;+0bc;+0cd;+2ab", "r2=2xz0zy;r1=0xy!2xy;r2=2xz2zy;r3=0xz1zy");
    holding(x, "0ab 0bc 0cd 2ab 2ac 2ad 1bc 1cd 3ac 3bd");
    due(2, () -> x.rounds(0));
    due(2, () -> x.rounds(1));
    due(1, () -> x.fresh(0, 1));
    due(1, () -> x.fresh(0, 2));
    due(2, () -> x.fresh(1, 1));
    due(2, () -> x.fresh(1, 2));
    // the stage of a fact is its round within its layer
    fact(x, "2ad", 2, 0, 2, 2, 5, 2);
    fact(x, "1cd", 1, 1, 0, 1, 2, 1);
    fact(x, "3bd", 2, 3, 2, 2, 4, 2);
    accounts(x, 10, 4, 4, 4, 2, 2, 5, 1, 0, 2);
    // a told fact of a higher layer holds from the start, and is not derived
    KinFacts y = after("+1aa;+0aa;+0bb", "r1=0xy!2xy");
    fact(y, "1aa", 0, -1, -1, 0, 1, 0);
    fact(y, "1bb", 1, 0, 0, 1, 2, 1);
    due(1, () -> y.fresh(1, 1));
    due(0, () -> y.rounds(0));
  }

  private static void roundsAndNewFacts() {
    Check.part("rounds, fresh: no such layer, or it has no such round; from 1");
    KinFacts x = new KinFacts();
    for (int no : new int[] {-1, 1, 5, 6, Integer.MIN_VALUE, Integer.MAX_VALUE}) {
      due(ELEMENT, () -> x.rounds(no));
      due(ELEMENT, () -> x.fresh(no, 1));
      due(ELEMENT, () -> x.fresh(no, 0));
      due(ELEMENT, () -> x.fresh(0, no));
    }
    due(0, () -> x.rounds(0));
    due(ELEMENT, () -> x.fresh(0, 0));
    tell(x, "0ab");
    due(0, () -> x.rounds(0));
    KinFacts y = after("+0ab;+0bc;+0cd", "r1=0xy;r1=1xz1zy;r3=0xx0yy!1xx;r4=1xy!3xy;r4=4yx");
    int[] rounds = {3, 0, 2};
    int[][] fresh = {{3, 2, 1}, {}, {6, 6}};
    due(3, y::layers);
    for (int layer = 0; layer < 3; layer++) {
      int it = layer;
      due(rounds[it], () -> y.rounds(it));
      for (int round = 1; round <= rounds[it]; round++) {
        int turn = round;
        due(fresh[it][turn - 1], () -> y.fresh(it, turn));
      }
      for (int no : new int[] {0, rounds[it] + 1, -1, Integer.MIN_VALUE, Integer.MAX_VALUE}) {
        due(ELEMENT, () -> y.fresh(it, no));
      }
    }
    due(ELEMENT, () -> y.rounds(3));
    due(ELEMENT, () -> y.fresh(3, 1));
    due(5, () -> y.account(3));
    due(3, () -> y.account(4));
  }

  private static void endOfARound() {
    Check.part("facts that are new hold from the end of their round on");
    // each rule could use at once what the one ahead of it made, but only a round later
    KinFacts x = after("+0ff", "r1=0xy;r2=1xy;r3=2xy;r4=3xy;r5=4xy");
    for (int relation = 0; relation < 6; relation++) {
      int it = relation;
      due(it, () -> x.factOf(it, 5, 5, 0));
      due(it, () -> x.factOf(it, 5, 5, 3));
      due(it + 1, () -> x.factOf(it, 5, 5, 4));
    }
    due(5, () -> x.rounds(0));
    // within one rule, too: a chain is made longer by one step a round
    KinFacts y = after("+0ab;+0bc;+0cd;+0de;+0ef;+1fa", "r1=0xz1zy");
    due(5, () -> y.rounds(0));
    for (int one = 0; one < 5; one++) {
      int it = one;
      due(5 - it, () -> y.factOf(1, it, 0, 0));
    }
    // made in the last round by all that holds, again: it is not new again
    KinFacts z = after("+0ab;+0ba", "r1=0xy;r1=1yx;r1=1xz1zy");
    due(2, () -> z.rounds(0));
    due(2, () -> z.fresh(0, 1));
    due(2, () -> z.fresh(0, 2));
    due(3, () -> z.ways(1, 0, 0));
    due(4, () -> z.ways(1, 0, 1));
  }

  private static void byANewFact() {
    Check.part("by a condition, not negated, that is fulfilled by a fact that was new in the round before");
    for (int number = 1; number <= 54; number++) {
      int relation = (number - 1) / 9;
      int told = (relation + 1) % 6;
      int head = (relation + 2) % 6;
      String condition = relation + PAIRS[(number - 1) % 9];
      String[] others = {told + "xy", told + "zz"};
      String[][] conditions = {{condition, others[0], others[1]}, {others[0], condition, others[1]},
          {others[0], others[1], condition}};
      for (String[] it : conditions) {
        // only a is told of, so that x, y and z are a
        KinFacts x = after("+" + told + "aa");
        due(0, () -> rule(x, relation, told + "xy"));
        due(1, () -> rule(x, head, it));
        fact(x, relation + "aa", 1, 0, 0, 1, 2, 1);
        fact(x, head + "aa", 2, 1, 0, 2, 3, 2);
        due(3, () -> x.account(0));
        StringBuilder needs = new StringBuilder();
        for (String need : it) {
          needs.append(needs.length() == 0 ? "" : ",").append(need.charAt(0)).append("aa");
        }
        line(x, head + "aa", head + "aa<1:" + needs);
      }
    }
  }

  private static void onlyThoseThatAreTold() {
    Check.part("rules that were dropped, refused or only asked about have no effect");
    KinFacts x = after("+0ab", "r5=0xy;r4=0xy;r1=0xy!2xy");
    due(3, () -> x.drop(2));
    due(2, () -> x.drop(1));
    due(true, () -> would(x, 2, "1xy"));
    onlyTheFirst(x);
    due(1, () -> rule(x, 2, "1xy"));
    due(2, () -> x.drop(1));
    onlyTheFirst(x);
    refused(x, 5, 3, 3, "0xy", "!3xy");
    onlyTheFirst(x);
    refused(x, 4, 0, 3, "!0xy");
    onlyTheFirst(x);
    due(true, () -> would(x, 3, "!1xy", "5xy"));
    onlyTheFirst(x);
    due(true, () -> would(x, 3, "5xy"));
    onlyTheFirst(x);
    due(1, () -> x.drop(0));
    due(0, () -> x.relationOf(5, 3));
    due(0, () -> x.relationOf(0, 4));
    due(true, x::isWell);
    due(1, () -> x.account(0));
    KinFacts y = after("r5=0xy;r4=0xy;r1=0xy!2xy");
    due(false, () -> would(y, 2, "1xy"));
    refused(y, 5, 2, 2, "1xy");
    due(2, () -> run(y, "d2;d1"));
    due(1, () -> rule(y, 2, "1xy"));
    due(2, y::undo);
    due(1, y::undo);
    refused(y, 5, 2, 2, "1xy");
    due(3, () -> y.account(2));
  }

  private static void onlyTheFirst(KinFacts x) {
    holding(x, "0ab 5ab");
    due(false, () -> x.holds(3, 0, 1, true));
    int[] heads = {0, 0, 0, 0, 0, 1};
    int[] conditions = {1, 0, 0, 0, 0, 0};
    for (int relation = 0; relation < 6; relation++) {
      int it = relation;
      due(heads[it], () -> x.relationOf(it, 3));
      due(conditions[it], () -> x.relationOf(it, 4));
      due(0, () -> x.relationOf(it, 2));
      due(it == 0 ? 2 : 1, () -> x.would(it, it, it));
    }
    due(1, x::layers);
    due(0, () -> x.account(7));
    due(0, () -> x.ways(3, 0, 1));
    due(INDEX, () -> x.ruleOf(1, 0));
    due(INDEX, () -> x.ruleLine(1));
  }
}
