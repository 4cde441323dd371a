/** The edges that the promises 1 to 12 and the terms ahead of them name, each sentence by itself. */
public final class FactEdgeTest extends Calls {
  /** A call about a fact. */
  private interface FactCall {
    Object answer(KinFacts x, int relation, int one, int other);
  }

  private static final FactCall[] FACT_CALLS = {
      KinFacts::tell, KinFacts::untell, (x, r, p, q) -> x.holds(r, p, q, false),
      (x, r, p, q) -> x.holds(r, p, q, true), KinFacts::isTold, (x, r, p, q) -> x.factOf(r, p, q, 0),
      KinFacts::ways, KinFacts::would, KinFacts::line};
  private static final int[] ENDS = {0, 5};

  public static void main(String[] args) {
    firstAndLastPersons();
    beyondThePersons();
    personsOfARelation();
    thePersonsCanBeTheSame();
    allFactsTold();
    allFactsUntold();
    allFactsDerived();
    told();
    notTold();
    bothWays();
    numbersOfAFact();
    derivationAtItsEdges();
    needsCountedOnce();
    mostWays();
    wouldBothSides();
    numbersOfARelation();
    ranks();
    mutual();
    Check.end();
  }

  private static KinFacts corners() {
    return after("+0aa;+0af;+0fa;+0ff;+5aa;+5af;+5fa;+5ff");
  }

  private static void firstAndLastPersons() {
    Check.part("there are the persons 0 to 5 and the relations 0 to 5: those are in");
    Object[] wants = {null, null, true, true, true, 0, 0, -1, 4};
    for (int call = 0; call < FACT_CALLS.length; call++) {
      FactCall it = FACT_CALLS[call];
      KinFacts x = call == 0 ? new KinFacts() : corners();
      int done = 0;
      for (int r : ENDS) {
        for (int p : ENDS) {
          for (int q : ENDS) {
            done++;
            Object change = call == 0 ? done : 8 - done;
            due(call < 2 ? change : wants[call], () -> it.answer(x, r, p, q));
          }
        }
      }
    }
  }

  private static void beyondThePersons() {
    Check.part("throws IllegalArgumentException if there is no such relation or person");
    for (FactCall it : FACT_CALLS) {
      KinFacts x = corners();
      for (int no : OUTSIDE) {
        for (int in : ENDS) {
          due(ARGUMENT, () -> it.answer(x, no, in, in));
          due(ARGUMENT, () -> it.answer(x, in, no, in));
          due(ARGUMENT, () -> it.answer(x, in, in, no));
        }
        due(ARGUMENT, () -> it.answer(x, no, no, no));
      }
      due(8, () -> x.account(1));
      due(1, () -> x.account(9));
      due(ELEMENT, () -> x.refusal(false));
      due(INDEX, () -> x.character(0));
    }
  }

  private static void personsOfARelation() {
    Check.part("kin, relationOf, isMutual: no such relation or person; bit k for the person k");
    KinFacts x = corners();
    for (int in : ENDS) {
      due(33, () -> x.kin(in, 0));
      due(33, () -> x.kin(in, 5));
      due(0, () -> x.kin(in, 1));
      due(0, () -> x.kin(in, 4));
      due(4, () -> x.relationOf(in, 0));
      due(true, () -> x.isMutual(in));
    }
    for (int no : OUTSIDE) {
      due(ARGUMENT, () -> x.kin(no, 0));
      due(ARGUMENT, () -> x.kin(5, no));
      due(ARGUMENT, () -> x.kin(no, no));
      due(ARGUMENT, () -> x.relationOf(no, 0));
      due(ARGUMENT, () -> x.isMutual(no));
    }
    KinFacts y = after("+3cf", "+4ca;+4cb;+4cc;+4cd;+4ce;+4cf", "+2ba");
    due(32, () -> y.kin(3, 2));
    due(63, () -> y.kin(4, 2));
    due(1, () -> y.kin(2, 1));
    due(0, () -> y.kin(2, 0));
  }

  private static void thePersonsCanBeTheSame() {
    Check.part("a person, who can be the same");
    KinFacts x = new KinFacts();
    for (int person = 0; person < 6; person++) {
      int it = person;
      due(it + 1, () -> x.tell(3, it, it));
      due(1 << it, () -> x.kin(3, it));
    }
    due(true, () -> x.isMutual(3));
    rule(x, 4, "3xx", "3yy");
    due(42, () -> x.account(0));
    due(36, () -> x.relationOf(4, 0));
  }

  private static KinFacts full() {
    KinFacts x = new KinFacts();
    for (int fact = 0; fact < 216; fact++) {
      int it = fact;
      due(it + 1, () -> x.tell(it / 36, it / 6 % 6, it % 6));
    }
    return x;
  }

  private static void allFactsTold() {
    Check.part("the most facts: all 216 told");
    KinFacts x = full();
    accounts(x, 216, 216, 0, 0, 0, 0, 1, 0, 0, 8);
    for (int relation = 0; relation < 6; relation++) {
      int it = relation;
      relation(x, it, 36, 36, 0, 0, 0, 0);
      due(it, () -> x.ranked(it));
      due(true, () -> x.isMutual(it));
      due(63, () -> x.kin(it, 5));
      due(REFUSED, () -> x.tell(it, 5, it));
      due(2, () -> x.refusal(false));
      due(36, () -> x.refusal(true));
      due(-1, () -> x.would(it, it, 0));
    }
    due(1.0f, x::toldShare);
    due(0.0, x::meanDepth);
    due(true, x::isWell);
    due(216, x::save);
    due(0, () -> rule(x, 0, "0xz", "0zy"));
    due(6, () -> x.ways(0, 3, 3));
    due(0, () -> x.ruleOf(0, 2));
    due(36, () -> x.ruleOf(0, 3));
    due(0, () -> x.would(0, 0, 0));
    due(215, () -> x.untell(5, 5, 5));
    due(REFUSED, () -> x.untell(5, 5, 5));
    due(0, () -> x.refusal(true));
    due(1, () -> x.would(5, 5, 5));
    due(216, x::restore);
    due(true, () -> x.isTold(5, 5, 5));
  }

  private static void allFactsUntold() {
    Check.part("all 216 facts told, and told no more");
    KinFacts x = full();
    for (int fact = 0; fact < 216; fact++) {
      int it = fact;
      due(215 - it, () -> x.untell(it / 36, it / 6 % 6, it % 6));
    }
    accounts(x, 0, 0, 0, 0, 0, 0, 0, 0, 0, 8);
    due(ARITHMETIC, x::meanDepth);
    due(ARITHMETIC, x::toldShare);
    due(true, x::isWell);
    due(7, x::undo);
    due(true, () -> x.isTold(5, 5, 5));
    due(1, () -> x.account(0));
  }

  private static void allFactsDerived() {
    Check.part("the most facts: all 216 hold, 6 of them told");
    KinFacts x = after("+0ab;+0bc;+0cd;+0de;+0ef;+0fa",
        "r0=0xz0zy;r1=0xy;r2=1xy;r3=2xy;r4=3xy;r5=4xy");
    accounts(x, 216, 6, 6, 8, 8, 8, 16, 0, 0, 2);
    int[] fresh = {12, 24, 36, 36, 36, 30, 24, 12};
    due(8, () -> x.rounds(0));
    for (int round = 1; round <= 8; round++) {
      int it = round;
      due(fresh[it - 1], () -> x.fresh(0, it));
    }
    due(ELEMENT, () -> x.fresh(0, 9));
    relation(x, 0, 36, 6, 0, 1, 3, 3);
    relation(x, 5, 36, 0, 0, 1, 0, 8);
    for (int rule = 0; rule < 6; rule++) {
      int it = rule;
      due(it == 0 ? 30 : 36, () -> x.ruleOf(it, 2));
      due(36, () -> x.ruleOf(it, 3));
    }
    due(6, () -> x.ways(0, 2, 2));
    due(1, () -> x.ways(5, 2, 2));
    due(-126, () -> x.would(0, 0, 1));
    due(0, () -> x.would(0, 0, 2));
    due(6.0f / 216.0f, x::toldShare);
    due(true, x::isWell);
    due(90, () -> x.untell(0, 0, 1));
  }

  private static void told() {
    Check.part("refused for reason 2: how many facts of this relation are told");
    KinFacts x = after("+1ab;+1ac;+2aa", "r1=2xy");
    due(REFUSED, () -> tell(x, "1ac"));
    due(2, () -> x.refusal(false));
    due(2, () -> x.refusal(true));
    due(REFUSED, () -> tell(x, "2aa"));
    due(1, () -> x.refusal(true));
    // what only holds is not told: it is not refused, and nothing more holds then
    due(4, () -> tell(x, "1aa"));
    due(true, () -> x.isTold(1, 0, 0));
    due(REFUSED, () -> tell(x, "1aa"));
    due(3, () -> x.refusal(true));
  }

  private static void notTold() {
    Check.part("refused for reason 3: 1 if it holds, and 0 otherwise");
    KinFacts x = after("+2aa;+1aa", "r1=2xy");
    due(REFUSED, () -> x.untell(1, 5, 5));
    due(3, () -> x.refusal(false));
    due(0, () -> x.refusal(true));
    // it goes on to hold as it is told no more, for it is derived
    due(2, () -> x.untell(1, 0, 0));
    due(REFUSED, () -> x.untell(1, 0, 0));
    due(3, () -> x.refusal(false));
    due(1, () -> x.refusal(true));
    due(0, () -> x.untell(2, 0, 0));
    due(REFUSED, () -> x.untell(1, 0, 0));
    due(0, () -> x.refusal(true));
  }

  private static void bothWays() {
    Check.part("by new facts round by round, or by all rules of a layer again and again");
    String[] mixed = {"+0ab;+0bc;+0ac;+3ab", "r1=0xz0zy;r2=0xy!1xy;r3=2xz3zy!1xz;r2=2yx;r5=0yy!3zz0xz"};
    KinFacts[] all = {ancestors(), corners(), new KinFacts(), after(mixed)};
    int[] holding = {20, 8, 0, 11};
    for (int at = 0; at < all.length; at++) {
      KinFacts x = all[at];
      int held = 0;
      for (int fact = 0; fact < 216; fact++) {
        int it = fact;
        boolean isHeld = x.holds(it / 36, it / 6 % 6, it % 6, false);
        due(isHeld, () -> x.holds(it / 36, it / 6 % 6, it % 6, true));
        held += isHeld ? 1 : 0;
      }
      int count = held;
      due(holding[at], () -> count);
    }
    holding(after(mixed), "0ab 0bc 0ac 3ab 1ac 2ab 2bc 2ba 2cb 3bb 3cb");
  }

  private static void numbersOfAFact() {
    Check.part("factOf: what is not from 0 to 5; several exceptions apply");
    KinFacts x = ancestors();
    for (int no : OUTSIDE) {
      due(INDEX, () -> x.factOf(0, 0, 1, no));
      due(INDEX, () -> x.factOf(1, 0, 5, no));
      due(ELEMENT, () -> x.factOf(0, 1, 0, no));
      due(ARGUMENT, () -> x.factOf(6, 0, 1, no));
      due(ARGUMENT, () -> x.factOf(0, -1, 1, no));
      due(ARGUMENT, () -> x.factOf(0, 0, 6, no));
    }
    for (int what = 0; what < 6; what++) {
      int it = what;
      due(ELEMENT, () -> x.factOf(0, 1, 0, it));
    }
  }

  private static void derivationAtItsEdges() {
    Check.part("the lowest rule that made it in this round, and the lowest person z; 0 without z");
    KinFacts x = after("+0af;+0fb;+0ca;+0ad",
        "r1=5xy;r1=5yx;r1=5xz5zy;r1=5xz5yz;r1=5zx5zy",
        "r1=5zx5yz;r1=5xx5yy;r1=5yy5xx;r1=5xy5zz;r2=0xz0zy");
    fact(x, "2ab", 1, 9, 5, 1, 3, 2);
    fact(x, "2cd", 1, 9, 0, 1, 3, 2);
    line(x, "2ab", "2ab<9:0af,0fb");
    due(REFUSED, () -> rule(x, 2, "0xy"));
    x.drop(0);
    fact(x, "2ab", 1, 8, 5, 1, 3, 2);
    // several z: the lowest; several rules in a round: the lowest, even with a higher z
    KinFacts y = after("+0ab;+0bc;+0ad;+0dc;+3ee", "r1=0xz0zy3zz",
        "r1=0xz0zy;r1=0xz0zy0xy;r2=0xy3zz;r2=0xy");
    fact(y, "1ac", 1, 1, 1, 1, 3, 2);
    fact(y, "2ab", 1, 3, 4, 1, 3, 2);
    // a lower rule that could make it only later is not its rule
    KinFacts late = after("+0ab", "r2=1xy;r1=0xy;r2=0xy");
    fact(late, "2ab", 1, 2, 0, 1, 2, 1);
    due(2, () -> late.ways(2, 0, 1));
    due(0, () -> late.ruleOf(0, 2));
    due(1, () -> late.ruleOf(0, 3));
    // a lower z that could make it only later is not its z
    KinFacts lower = after("+0ba;+0ac;+0be;+1ec", "r1=0xy;r2=0xz1zy");
    fact(lower, "2bc", 1, 1, 4, 1, 3, 2);
    due(2, () -> lower.ways(2, 1, 2));
  }

  private static void needsCountedOnce() {
    Check.part("its size is how many different facts there are; the facts it needs, each counted once");
    KinFacts x = after("+0aa", "r1=0xy;r1=1xy1xy;r2=0xy1xy0yx;r3=0xy0xy0xy;r4=2xy1xy0xy");
    fact(x, "0aa", 0, -1, -1, 0, 1, 0);
    fact(x, "1aa", 1, 0, 0, 1, 2, 1);
    fact(x, "2aa", 2, 2, 0, 2, 3, 2);
    fact(x, "3aa", 1, 3, 0, 1, 2, 1);
    fact(x, "4aa", 3, 4, 0, 3, 4, 3);
    // a negated condition is not needed
    KinFacts y = after("+0ab", "r1=0xy!2xy!3yy;r4=!2yx1xy");
    fact(y, "1ab", 1, 0, 0, 1, 2, 1);
    fact(y, "4ab", 2, 1, 0, 2, 3, 1);
    line(y, "4ab", "4ab<1:1ab");
    Check.part("a long walk: 41 rounds, each with one new fact that rests on all before");
    KinFacts walk = after("+0ab;+0bc;+0cd;+0de;+0ef;+1aa;+4fa", "r1=1xz0zy;r5=1xz4zy;r1=0zx5zy");
    accounts(walk, 48, 7, 3, 41, 41, 41, 48, 0, 0, 2);
    fact(walk, "5fa", 41, 1, 5, 41, 48, 2);
    fact(walk, "1ff", 40, 0, 4, 40, 47, 2);
    fact(walk, "1ba", 7, 2, 0, 7, 14, 2);
    due(41, () -> walk.rounds(0));
    for (int round = 1; round <= 41; round++) {
      int it = round;
      due(1, () -> walk.fresh(0, it));
    }
    due(ELEMENT, () -> walk.fresh(0, 42));
    due(861.0 / 48.0, walk::meanDepth);
    due(-42, () -> walk.would(1, 0, 0));
    due(true, () -> walk.holds(5, 5, 0, true));
    due(true, walk::isWell);
  }

  private static void mostWays() {
    Check.part("for how many rules and persons z, of a rule without z for one");
    KinFacts x = after("+0ab;+0bc;+0cd;+0de;+0ef;+0fa", "r0=0xz0zy",
        "r1=0xz0zy;r1=0xz0yz;r1=0zx0zy;r1=0zx0yz;r1=0xy0zz",
        "r1=0yx0zz;r1=0zy0xz;r1=0xx0yz;r1=0yy0xz");
    due(54, () -> x.ways(1, 0, 0));
    due(54, () -> x.ways(1, 2, 5));
    due(6, () -> x.ways(0, 2, 5));
    due(0, () -> x.ways(2, 0, 0));
    x.drop(0);
    due(9, () -> rule(x, 1, "0zx", "0xz", "0zy"));
    due(0, () -> x.ways(0, 0, 1));
    KinFacts y = after("+0aa", "r1=0xy;r1=0yx;r1=0xx0yy;r1=0yy0xx;r1=0xx0xy;r1=0xy0xx",
        "r1=0yy0xy;r1=0xy0yy;r1=0yx0xy;r1=0xy0yx");
    due(10, () -> y.ways(1, 0, 0));
    due(0, () -> y.ways(1, 0, 1));
    // a told fact is made in its ways too, and by itself
    tell(y, "1aa");
    due(10, () -> y.ways(1, 0, 0));
    KinFacts self = after("+1ab", "r1=1xy;r1=1xy1xz");
    due(2, () -> self.ways(1, 0, 1));
    due(0, () -> self.ruleOf(0, 2));
    due(1, () -> self.ruleOf(0, 3));
    // a negated z: those persons with whom it does not hold
    KinFacts not = after("+0aa;+3bb;+4bb;+4cc;+4ff", "r1=0xy4zz!3zz");
    due(2, () -> not.ways(1, 0, 0));
    fact(not, "1aa", 1, 0, 2, 1, 3, 2);
  }

  private static void wouldBothSides() {
    Check.part("by how many there would be more facts, below 0 if there would be fewer");
    KinFacts x = after("+0ab", "r1=0xy!2xy;r3=1xy;r4=3xy");
    due(4, () -> x.account(0));
    due(-4, () -> x.would(0, 0, 1));
    due(-2, () -> x.would(2, 0, 1));
    due(1, () -> x.would(2, 1, 0));
    due(4, () -> x.would(0, 1, 0));
    due(0, () -> x.would(1, 0, 1));
    due(3, () -> x.would(1, 1, 0));
    due(2, () -> tell(x, "2ab"));
    due(2, () -> x.would(2, 0, 1));
    due(-1, () -> x.would(0, 0, 1));
    due(3, () -> x.would(1, 0, 1));
    due(5, () -> tell(x, "1ab"));
    due(-3, () -> x.would(1, 0, 1));
    due(4, () -> x.account(9));
    KinFacts y = new KinFacts();
    due(1, () -> y.would(0, 0, 0));
    due(1, () -> y.would(5, 5, 5));
    due(0, () -> y.account(0));
    tell(y, "5ff");
    due(-1, () -> y.would(5, 5, 5));
    due(true, () -> y.isTold(5, 5, 5));
  }

  private static void numbersOfARelation() {
    Check.part("relationOf: what is not from 0 to 5; conditions, negated ones included");
    KinFacts x = after("+0aa;+0bb", "r1=0xy0xy0xy;r1=0xy0xy0xx;r1=0xy0xx0yy;r0=0xx0xy0yy",
        "r4=0xy!0yx;r4=0xy!5xy;r0=3xy");
    relation(x, 0, 2, 2, 0, 2, 15, 0);
    for (int no : OUTSIDE) {
      due(INDEX, () -> x.relationOf(0, no));
      due(INDEX, () -> x.relationOf(5, no));
      due(ARGUMENT, () -> x.relationOf(no, no));
    }
    KinFacts all = new KinFacts();
    for (int rule = 0; rule < 10; rule++) {
      int it = rule;
      due(it, () -> all.rule(0, 47, 46 + it % 9, 47 + it / 9));
    }
    due(30, () -> all.relationOf(5, 4));
    due(0, () -> all.relationOf(0, 4));
    due(10, () -> all.relationOf(0, 3));
    KinFacts negated = after("r1=0xy!0xx!0yy;r2=!0xy!1xy3xy");
    due(4, () -> negated.relationOf(0, 4));
    due(1, () -> negated.relationOf(1, 4));
    due(2, () -> negated.relationOf(2, 2));
    due(0, () -> negated.relationOf(3, 2));
  }

  private static void ranks() {
    Check.part("the most first, of several the lowest; throws if there is no such place");
    KinFacts x = after("+5aa");
    int[] order = {5, 0, 1, 2, 3, 4};
    for (int place = 0; place < 6; place++) {
      int it = place;
      due(order[it], () -> x.ranked(it));
    }
    for (int no : OUTSIDE) {
      due(ELEMENT, () -> x.ranked(no));
    }
    // facts that hold count, not those that are told
    KinFacts y = after("+0aa;+0ab;+1bb", "r2=0xy;r2=1xy;r4=0xx0yy;r5=1xy");
    int[] by = {2, 0, 1, 4, 5, 3};
    for (int place = 0; place < 6; place++) {
      int it = place;
      due(by[it], () -> y.ranked(it));
    }
  }

  private static void mutual() {
    Check.part("from a second person to a first one whenever from the first one to the second one");
    for (int one = 0; one < 6; one++) {
      for (int other = 0; other < 6; other++) {
        KinFacts x = new KinFacts();
        int p = one;
        int q = other;
        x.tell(4, p, q);
        due(p == q, () -> x.isMutual(4));
        due(true, () -> x.isMutual(5));
        due(true, () -> x.isMutual(3));
        Check.answer(() -> x.tell(4, q, p));
        due(true, () -> x.isMutual(4));
      }
    }
    KinFacts y = full();
    y.untell(5, 4, 5);
    due(false, () -> y.isMutual(5));
    y.untell(5, 5, 4);
    due(true, () -> y.isMutual(5));
  }
}
