/** The edges that the promises 21 to 31 and the terms ahead of them name, each sentence by itself. */
public final class TextEdgeTest extends Calls {
  private static final String DIGITS = "012345";
  private static final String PERSONS = "abcdef";
  private static final String ORDERS = "+-rd";
  /** A beginning, what can continue it, and, with a dot, what makes a whole text of it. */
  private static final String[][] GRAMMAR = {
      {"", ORDERS, ""}, {"+", DIGITS, ""}, {"+5", PERSONS, ""}, {"+5f", PERSONS, "."},
      {"+5fa", ";", ""}, {"-", DIGITS, ""}, {"-0", PERSONS, ""}, {"-0a", PERSONS, "."},
      {"-0af", ";", ""}, {"d", "0123456789", "."}, {"d9", ";", ""}, {"d0;", ORDERS, ""},
      {"+0ab;", ORDERS, ""}, {"r", DIGITS, ""}, {"r5", "=", ""}, {"r5=", "!" + DIGITS, ""},
      {"r5=!", DIGITS, ""}, {"r5=!0", "xyz", ""}, {"r5=!0z", "xyz", "."}, {"r5=0", "xyz", ""},
      {"r5=0x", "xyz", "."}, {"r5=0xy", "!;" + DIGITS, ""}, {"r5=0xy!", DIGITS, ""},
      {"r5=0xy!5", "xyz", ""}, {"r5=0xy!5z", "xyz", "."}, {"r5=0xy5", "xyz", ""},
      {"r5=0xy5x", "xyz", "."}, {"r5=0xy5xz", "!;" + DIGITS, ""}, {"r5=0xy5xz!", DIGITS, ""},
      {"r5=0xy5xz!0", "xyz", ""}, {"r5=0xy5xz!0z", "xyz", "."}, {"r5=0xy5xz1", "xyz", ""},
      {"r5=0xy5xz1z", "xyz", "."}, {"r5=0xy5xz1zy", ";", ""}, {"r5=!0xy!5xz!1zy", ";", ""},
      {"r5=0xy;", ORDERS, ""}, {"+0ab;-0ab;+0ab;+0cd;r1=0xy;d", "0123456789", "."}};

  public static void main(String[] args) {
    linesOfFacts();
    linesOfRules();
    characters();
    input();
    eachCharacter();
    lastCharacters();
    tooEarly();
    numbersOfOrders();
    eachOrder();
    nothingOfIt();
    firstThatCannotBe();
    otherExceptions();
    reasonsInTexts();
    latestText();
    latestRefusal();
    accountNumbers();
    none();
    allIsWell();
    meansAndShares();
    Check.end();
  }

  private static void linesOfFacts() {
    Check.part("line: the shortest and the longest ones, the first and the last facts, no fact");
    KinFacts x = after("+0aa;+5ff;+0bc;+0cf", "r1=0xy;r2=0xz0zy;r3=0xy!1yx!2xy",
        "r4=0xz0zy2xy;r5=4xy!1yy");
    line(x, "0aa", "0aa.");
    line(x, "5ff", "5ff.");
    line(x, "1aa", "1aa<0:0aa");
    line(x, "2bf", "2bf<1:0bc,0cf");
    line(x, "2aa", "2aa<1:0aa,0aa");
    line(x, "3bc", "3bc<2:0bc");
    line(x, "4bf", "4bf<3:0bc,0cf,2bf");
    line(x, "5bf", "5bf<4:4bf");
    line(x, "0cf", "0cf.");
    for (int no : OUTSIDE) {
      due(ARGUMENT, () -> x.line(no, 0, 0));
      due(ARGUMENT, () -> x.line(5, no, 5));
      due(ARGUMENT, () -> x.line(5, 5, no));
    }
    due(ELEMENT, () -> x.line(5, 5, 0));
    due(ELEMENT, () -> x.line(0, 0, 1));
    due("0cf.", () -> written(x, 4));
    // the condition that is negated may come first, in the middle or last
    KinFacts y = after("+0ab;+0bc", "r1=!2xx0xz0zy;r3=0xz!2xx0zy;r4=0xz0zy!2xx");
    line(y, "1ac", "1ac<0:0ab,0bc");
    line(y, "3ac", "3ac<1:0ab,0bc");
    line(y, "4ac", "4ac<2:0ab,0bc");
    Check.part("line: told or derived, as it is now");
    due(5, () -> tell(y, "1ac"));
    line(y, "1ac", "1ac.");
    due(5, () -> y.untell(1, 0, 2));
    line(y, "1ac", "1ac<0:0ab,0bc");
  }

  private static void linesOfRules() {
    Check.part("ruleLine: one to three conditions, negated ones, the first and the last rule");
    String[] rules = {"0=0xx0yy", "5=5xy", "4=0xy!1xz0zz", "3=!0xx!1yy0yx", "2=0zy0xz0xy"};
    KinFacts x = new KinFacts();
    for (String rule : rules) {
      due(1, () -> run(x, "r" + rule));
    }
    for (int rule = rules.length - 1; rule >= 0; rule--) {
      int it = rule;
      due(rules[it].length(), () -> x.ruleLine(it));
      due(rules[it], () -> written(x, rules[it].length()));
    }
    for (int no : new int[] {-1, 5, 9, 10, Integer.MIN_VALUE, Integer.MAX_VALUE}) {
      due(INDEX, () -> x.ruleLine(no));
    }
    due(rules[0], () -> written(x, 8));
  }

  private static void characters() {
    Check.part("character: no such index, from 0; the line is empty at first");
    KinFacts x = new KinFacts();
    for (int no : new int[] {0, 1, -1, Integer.MIN_VALUE, Integer.MAX_VALUE}) {
      due(INDEX, () -> x.character(no));
    }
    run(x, "+0ab;+0bc;r1=0xz0zy;r2=0xy!0yx!1xy");
    due(INDEX, () -> x.character(0));
    due(13, () -> x.line(1, 0, 2));
    due('1', () -> x.character(0));
    due('c', () -> x.character(12));
    due(INDEX, () -> x.character(13));
    due(13, () -> x.ruleLine(1));
    due('2', () -> x.character(0));
    due('y', () -> x.character(12));
    due(INDEX, () -> x.character(13));
    // a shorter line in place of the longer one
    due(4, () -> x.line(0, 0, 1));
    due('.', () -> x.character(3));
    for (int no : new int[] {4, 5, 12, 13, -1, Integer.MIN_VALUE, Integer.MAX_VALUE}) {
      due(INDEX, () -> x.character(no));
    }
  }

  private static void input() {
    Check.part("append: throws if the input contains 60 characters");
    for (char sign : new char[] {'+', 0, 255, 256, Character.MAX_VALUE}) {
      KinFacts x = new KinFacts();
      for (int count = 1; count <= 60; count++) {
        int it = count;
        due(it, () -> x.append(sign));
      }
      due(STATE, () -> x.append('+'));
      due(STATE, () -> x.append(sign));
      due(60, () -> x.account(8));
      due(ARGUMENT, x::run);
      due(sign == '+' ? 1 : 0, x::errorPosition);
      due(0, () -> x.account(8));
      due(1, () -> x.append('d'));
      due(2, () -> x.append('0'));
      due(ARGUMENT, x::run);
      due(-1, x::errorPosition);
      due(0, () -> x.account(8));
    }
    Check.part("the input is empty after run, also if an exception is thrown");
    KinFacts x = new KinFacts();
    String[] texts = {"+0ab", "+0ab", "d0", "+0a", ""};
    Object[] answers = {1, REFUSED, ARGUMENT, ARGUMENT, ARGUMENT};
    for (int at = 0; at < texts.length; at++) {
      int it = at;
      due(answers[it], () -> run(x, texts[it]));
      due(0, () -> x.account(8));
    }
    due(1, () -> run(x, "-0ab"));
    due(0, () -> x.account(8));
    due(2, () -> x.account(9));
  }

  private static void eachCharacter() {
    Check.part("the offset of the first character that cannot continue such a text");
    for (String[] line : GRAMMAR) {
      String start = line[0];
      for (int sign = 0; sign <= 300; sign++) {
        char c = sign == 300 ? Character.MAX_VALUE : (char) sign;
        KinFacts x = new KinFacts();
        boolean isIn = line[1].indexOf(c) >= 0;
        boolean isWhole = isIn && !line[2].isEmpty();
        Object answer = run(x, start + c);
        due(isWhole || ARGUMENT.equals(answer), () -> true);
        due(isWhole ? -1 : isIn ? start.length() + 1 : start.length(), x::errorPosition);
      }
    }
    // what stands behind it does not matter
    KinFacts x = new KinFacts();
    due(ARGUMENT, () -> run(x, "+0ab;+0gb;+0ab"));
    due(7, x::errorPosition);
    due(ARGUMENT, () -> run(x, "?+0ab"));
    due(0, x::errorPosition);
  }

  private static final String FILL = "+0aa;+0ab;+0ac;+0ad;+0ae;+0af;+1aa;+1ab;+1ac;+1ad;+1ae;";

  private static void lastCharacters() {
    Check.part("the input has at most 60 characters: an error at the last one, and behind it");
    KinFacts x = new KinFacts();
    due(12, () -> run(x, FILL + "+1af"));
    due(12, () -> x.account(0));
    due(-1, x::errorPosition);
    due(2, () -> run(x, "r2=0xy;r2=1xy"));
    due(1, x::undo);
    due(ARGUMENT, () -> run(x, FILL + "+1afx"));
    due(59, x::errorPosition);
    due(ARGUMENT, () -> run(x, FILL + "+1af;"));
    due(60, x::errorPosition);
    due(ARGUMENT, () -> run(x, FILL + "r1=0x"));
    due(60, x::errorPosition);
    due(ARGUMENT, () -> run(x, FILL + "r1=0!"));
    due(59, x::errorPosition);
    due(1, () -> x.account(9));
    KinFacts y = after("r5=0xy;r5=0yx");
    due(13, () -> run(y, FILL + "d0;d0"));
    due(-1, y::errorPosition);
    due(11, () -> y.account(0));
    due(0, () -> y.account(2));
    KinFacts z = new KinFacts();
    due(5, () -> run(z, "r1=0xy!2xx0xy;r3=1xy!2xx4xx;r5=1xy1yx;r5=3xx3xy5xy;r5=0xy0yx"));
    due(5, () -> z.account(2));
  }

  private static void tooEarly() {
    Check.part("or the length of the text if it ends too early");
    String[] texts = {"", "+", "+5", "+5f", "-", "-0", "-0a", "d", "r", "r5", "r5=", "r5=!", "r5=!0",
        "r5=!0z", "r5=0", "r5=0x", "r5=0xy!", "r5=0xy!5", "r5=0xy!5z", "r5=0xy5", "r5=0xy5x",
        "r5=0xy0xy!", "r5=0xy0xy!0", "r5=0xy0xy!0z", "r5=0xy0xy1", "r5=0xy0xy1z", "+0ab;", "d0;",
        "r5=0xy;", "r5=0xy0xy0xy;", "+0ab;+", "+0ab;r5=0xy!"};
    KinFacts x = new KinFacts();
    for (String text : texts) {
      due(ARGUMENT, () -> run(x, text));
      due(text.length(), x::errorPosition);
    }
    due(0, () -> x.account(0));
    due(0, () -> x.account(2));
    due(0, () -> x.account(9));
  }

  private static void numbersOfOrders() {
    Check.part("run returns the number of orders: one, and the most that can be carried out");
    KinFacts x = new KinFacts();
    due(1, () -> run(x, "+5ff"));
    due(1, () -> run(x, "-5ff"));
    due(1, () -> run(x, "r1=0xy"));
    due(1, () -> run(x, "d0"));
    due(4, () -> x.account(9));
    due(3, () -> run(x, "r1=0xy0xx0yy;r1=0xy!2xx!2yy;r1=!2xx!2yy0xy"));
    due(5, () -> run(x, "r1=0xy;r2=0xy;r3=0xy;r4=0xy;r5=0xy"));
    due(2, () -> run(x, "r5=0yx;r5=1yx"));
    due(10, () -> x.account(2));
    due(16, () -> run(x, "d0;d0;d0;d0;d0;d0;d0;d0;d0;d0;+0aa;+0bb;+0cc;+0dd;+0ee;+0ff"));
    due(6, () -> x.account(1));
    due(0, () -> x.account(2));
    due(8, () -> x.account(9));
    due(7, x::undo);
    due(0, () -> x.account(1));
    due(10, () -> x.account(2));
    // twenty orders, of which the eleventh cannot be
    due(ARGUMENT, () -> run(x, "d0;d0;d0;d0;d0;d0;d0;d0;d0;d0;d0;d0;d0;d0;d0;d0;d0;d0;d0;d0"));
    due(-1, x::errorPosition);
    due(10, () -> x.account(2));
    due(7, () -> x.account(9));
  }

  private static void eachOrder() {
    Check.part("+ tells a fact, - tells it no more, r tells a rule, d drops a rule");
    KinFacts x = new KinFacts();
    for (int fact = 0; fact < 216; fact += 5) {
      int it = fact;
      String text = "" + it / 36 + PERSONS.charAt(it / 6 % 6) + PERSONS.charAt(it % 6);
      due(1, () -> run(x, "+" + text));
      due(true, () -> x.isTold(it / 36, it / 6 % 6, it % 6));
    }
    due(44, () -> x.account(1));
    KinFacts y = after("+0ab;+3cf", "-0ab;-3cf;+0ab");
    due(1, () -> y.account(1));
    KinFacts z = after("r0=1xy;r1=2xy;r2=3xy;r3=4xy;r4=5xy;r5=0xy;r0=2xy;r1=3xy", "r2=4xy;r3=5xy");
    int[] heads = {0, 1, 2, 3, 4, 5, 0, 1, 2, 3};
    for (int rule = 9; rule >= 0; rule--) {
      int it = rule;
      due(heads[it], () -> z.ruleOf(it, 0));
      due(1, () -> run(z, "d" + it));
      due(it, () -> z.account(2));
      due(ARGUMENT, () -> run(z, "d" + it));
      due(-1, z::errorPosition);
    }
    // each order meets what those ahead of it left
    KinFacts w = after("+0ab;-0ab;+0ab;r1=0xy;d0;r2=0xy;r1=0xy;d0;+1ab");
    due("1=0xy", () -> written(w, w.ruleLine(0)));
    due(2, () -> w.account(1));
    due(1, () -> w.account(9));
  }

  private static void nothingOfIt() {
    Check.part("a text is carried out if each order can be; else nothing of it is");
    String[] texts = {"+2aa;-0ab;d0;r3=0xy;+2aa", "+2aa;-0ab;d0;r3=0xy;-1ab", "+2aa;-0ab;d0;r3=0xy;r3=0xx",
        "+2aa;-0ab;d0;r3=0xy;r3=0xy", "+2aa;-0ab;d0;r3=0xy;r3=0xy!3xy", "+2aa;-0ab;d0;r3=0xy;d2",
        "+2aa;-0ab;d0;r3=0xy;d9", "+2aa;-0ab;d0;r3=0xy;", "+2aa;-0ab;d0;r3=0xy;d", "+0ab", "d2", "-1ab"};
    for (String text : texts) {
      KinFacts x = after("+0ab;+0bc;r1=0xy;r2=1xy");
      Object answer = run(x, text);
      boolean isRefused = text.endsWith("a") || text.endsWith("b") || text.contains("r3=0xy;r3");
      due(isRefused ? REFUSED : ARGUMENT, () -> answer);
      accounts(x, 6, 2, 2, 2, 2, 2, 3, 0, 0, 1);
      due("1=0xy", () -> written(x, x.ruleLine(0)));
      due("2=1xy", () -> written(x, x.ruleLine(1)));
      holding(x, "0ab 0bc 1ab 1bc 2ab 2bc");
      due(0, x::undo);
      due(0, () -> x.account(0));
    }
  }

  private static void firstThatCannotBe() {
    Check.part("the first order that cannot be decides what is thrown");
    KinFacts x = after("+0ab;+3cd;+3ce");
    due(REFUSED, () -> run(x, "+1aa;+3cd;d0;-0aa"));
    due(2, () -> x.refusal(false));
    due(2, () -> x.refusal(true));
    due(ARGUMENT, () -> run(x, "+1aa;d0;-0aa;+0ab"));
    due(2, () -> x.refusal(false));
    due(2, () -> x.refusal(true));
    due(REFUSED, () -> run(x, "-0aa;+0ab"));
    due(3, () -> x.refusal(false));
    due(REFUSED, () -> run(x, "+0ab;-0aa"));
    due(2, () -> x.refusal(false));
    due(1, () -> x.refusal(true));
    // an error of the text goes ahead of all its orders
    due(ARGUMENT, () -> run(x, "-0aa;+0a"));
    due(8, x::errorPosition);
    due(2, () -> x.refusal(false));
    due(ARGUMENT, () -> run(x, "d0;-0aa;*"));
    due(8, x::errorPosition);
    due(3, () -> x.account(0));
  }

  private static void otherExceptions() {
    Check.part("the method for an order would throw another exception: its position is -1");
    KinFacts x = new KinFacts();
    for (int digit = 0; digit <= 9; digit++) {
      String text = "d" + digit;
      due(ARGUMENT, () -> run(x, "+"));
      due(1, x::errorPosition);
      due(ARGUMENT, () -> run(x, text));
      due(-1, x::errorPosition);
      due(ELEMENT, () -> x.refusal(false));
    }
    due(ARGUMENT, () -> run(x, "r1=0xy;d1"));
    due(-1, x::errorPosition);
    due(0, () -> x.account(2));
    due(2, () -> run(x, "r1=0xy;d0"));
    due(ARGUMENT, () -> run(x, "r1=0xy;d0;d0"));
    due(1, () -> x.account(9));
  }

  private static void reasonsInTexts() {
    Check.part("refused for a reason of the method for an order; the reason is kept for refusal");
    String[] few = {"+0cc;+0ab", "-0cc", "-0ab;-0ab", "+1ab;-1ab;-1ab", "d0;-1ab", "r1=0zz", "r1=0xz",
        "r1=0xy!0yz", "r1=0xy!1xy", "r0=1xy;r1=0xy!0xx", "r5=0xy!5xx", "r0=0xy!1xy", "r1=0xy",
        "r2=0xy;r3=0xy;r3=0xy", "d0;r1=0xy;r1=0xy"};
    int[][] fewReasons = {{2, 3}, {3, 0}, {3, 0}, {3, 1}, {3, 0}, {4, 0}, {4, 1}, {4, 2}, {5, 1}, {5, 1},
        {5, 5}, {5, 0}, {6, 0}, {6, 2}, {6, 0}};
    for (int at = 0; at < few.length; at++) {
      reason(after("+0ab;+0cd;r1=0xy"), few[at], fewReasons[at]);
    }
    String[] ten = {"r0=0xy", "d9;r0=0xy;r0=0yx", "r0=0xx", "r0=0xy!1xy", "r5=0yx", "d0;r5=0yx"};
    int[][] tenReasons = {{1, 10}, {1, 10}, {4, 1}, {1, 10}, {6, 9}, {6, 8}};
    for (int at = 0; at < ten.length; at++) {
      KinFacts x = after("r1=0xy;r1=0yx;r2=0xy;r2=0yx;r3=0xy;r3=0yx", "r4=0xy;r4=0yx;r5=0xy;r5=0yx");
      reason(x, ten[at], tenReasons[at]);
    }
  }

  private static void reason(KinFacts x, String text, int[] reason) {
    due(ELEMENT, () -> x.refusal(false));
    due(REFUSED, () -> run(x, text));
    due(-1, x::errorPosition);
    due(reason[0], () -> x.refusal(false));
    due(reason[1], () -> x.refusal(true));
  }

  private static void latestText() {
    Check.part("the error position of the text of the latest call of run, or -1");
    KinFacts x = new KinFacts();
    due(-1, x::errorPosition);
    x.append('*');
    due(-1, x::errorPosition);
    due(ARGUMENT, x::run);
    due(0, x::errorPosition);
    x.append('+');
    due(0, x::errorPosition);
    due(ARGUMENT, x::run);
    due(1, x::errorPosition);
    due(ARGUMENT, x::run);
    due(0, x::errorPosition);
    due(1, () -> run(x, "+0ab"));
    due(-1, x::errorPosition);
    due(ARGUMENT, () -> run(x, "+0abc"));
    due(4, x::errorPosition);
    due(REFUSED, () -> run(x, "+0ab"));
    due(-1, x::errorPosition);
    due(ARGUMENT, () -> run(x, "+0b"));
    due(1, x::save);
    due(0, x::undo);
    due(1, x::restore);
    due(3, x::errorPosition);
    due(REFUSED, () -> tell(x, "0ab"));
    due(3, x::errorPosition);
  }

  private static void latestRefusal() {
    Check.part("the reason of the latest refusal; throws if nothing was refused");
    KinFacts x = new KinFacts();
    due(ELEMENT, () -> x.refusal(true));
    due(ELEMENT, () -> x.refusal(false));
    due(ARGUMENT, () -> x.rule(0, 0, 0, 0));
    due(ARGUMENT, () -> x.wouldLayer(6, 2, 0, 0));
    due(false, () -> x.wouldLayer(0, -2, 0, 0));
    due(STATE, x::undo);
    due(INDEX, () -> x.drop(0));
    due(ARGUMENT, () -> run(x, "d0"));
    due(ELEMENT, () -> x.refusal(true));
    due(ELEMENT, () -> x.refusal(false));
    refused(x, 5, 3, 3, "0xy", "!3xy");
    due(1, () -> tell(x, "0ab"));
    due(0, () -> rule(x, 1, "0xy"));
    due(5, () -> x.refusal(false));
    due(3, () -> x.refusal(true));
    due(REFUSED, () -> x.untell(1, 0, 1));
    due(3, () -> x.refusal(false));
    due(1, () -> x.refusal(true));
    // it is not asked again: it stays as it was when it was refused
    due(0, () -> x.untell(0, 0, 1));
    due(1, () -> x.refusal(true));
    due(REFUSED, () -> x.untell(1, 0, 1));
    due(0, () -> x.refusal(true));
    refused(x, 6, 0, 1, "0xy");
    refused(x, 4, 0, 1, "0zz");
  }

  private static void accountNumbers() {
    Check.part("account: what is not from 0 to 9");
    KinFacts x = ancestors();
    for (int no : new int[] {-1, 10, 11, Integer.MIN_VALUE, Integer.MAX_VALUE}) {
      due(ARGUMENT, () -> x.account(no));
    }
    accounts(x, 20, 5, 2, 5, 5, 5, 10, 0, 0, 2);
    Check.part("the rounds of all layers, the greatest stage, depth and size, the negated conditions");
    KinFacts y = after("+0ab;+0bc", "r1=0xy;r1=0xz1zy;r2=1xy!0xy;r3=2xy!5xx!5yy;r4=3xy!2yx");
    accounts(y, 8, 2, 5, 5, 2, 5, 7, 4, 0, 2);
    due(1, () -> run(y, "-0bc"));
    accounts(y, 2, 1, 5, 1, 1, 1, 2, 4, 0, 3);
    due(1, () -> run(y, "-0ab"));
    accounts(y, 0, 0, 5, 0, 0, 0, 0, 4, 0, 4);
    KinFacts most = new KinFacts();
    int[] negated = {-1, -2, -4, -5};
    for (int rule = 0; rule < 10; rule++) {
      int it = rule;
      due(it, () -> most.rule(1, negated[it / 4], 2, negated[it % 4]));
      due(2 * it + 2, () -> most.account(7));
    }
    most.drop(9);
    due(18, () -> most.account(7));
    Check.part("the characters in the input");
    for (int count = 1; count <= 60; count++) {
      int it = count;
      most.append(';');
      due(it, () -> most.account(8));
    }
  }

  private static void none() {
    Check.part("0 without any");
    KinFacts x = after("r1=0xy;r2=0xy!1xy");
    accounts(x, 0, 0, 2, 0, 0, 0, 0, 1, 0, 1);
    for (int relation = 0; relation < 6; relation++) {
      int it = relation;
      due(0, () -> x.relationOf(it, 5));
      due(0, () -> x.relationOf(it, 0));
      due(it, () -> x.ranked(it));
    }
    tell(x, "5ff");
    accounts(x, 1, 1, 2, 0, 0, 0, 1, 1, 0, 2);
    due(0, () -> x.relationOf(5, 5));
    tell(x, "0ff");
    accounts(x, 3, 2, 2, 1, 1, 1, 2, 1, 0, 3);
    due(1, () -> x.relationOf(1, 5));
  }

  private static void allIsWell() {
    Check.part("isWell: with none, with facts alone, with rules alone, with both, after each change");
    KinFacts x = new KinFacts();
    due(true, x::isWell);
    String[] texts = {"+0ab;+0ba;+0cc", "r1=0xy!2xy;r2=3xy", "+3ab", "r3=0xz0zy", "r4=1xz2zy!0xy;r5=4xy4yx",
        "-0ab", "d1", "+2ac;+1ab", "d0;d0", "-0ba;-0cc"};
    for (String text : texts) {
      due(text.split(";").length, () -> run(x, text));
      due(true, x::isWell);
    }
    for (int left = 7; left >= 0; left--) {
      int it = left;
      due(it, x::undo);
      due(true, x::isWell);
    }
  }

  private static void meansAndShares() {
    Check.part("meanDepth, toldShare: as doubles, as floats; throws if none holds");
    KinFacts x = after("r1=0xy;r2=1xy");
    due(ARITHMETIC, x::meanDepth);
    due(ARITHMETIC, x::toldShare);
    tell(x, "3ab");
    due(0.0, x::meanDepth);
    due(1.0f, x::toldShare);
    tell(x, "0ab");
    due(3.0 / 4.0, x::meanDepth);
    due(0.5f, x::toldShare);
    tell(x, "0ac");
    due(6.0 / 7.0, x::meanDepth);
    due(3.0f / 7.0f, x::toldShare);
    due(7, () -> tell(x, "1ac"));
    due(4.0 / 7.0, x::meanDepth);
    due(4.0f / 7.0f, x::toldShare);
    due(4, () -> x.untell(0, 0, 1));
    due(1.0 / 4.0, x::meanDepth);
    due(3.0f / 4.0f, x::toldShare);
  }
}
