import java.util.NoSuchElementException;

/** Facts about kin, told and derived by rules, layer by layer and round by round. */
public final class KinFacts {
  private static final int RELATIONS = 6;
  private static final int PERSONS = 6;
  private static final int PAIRS = 36;
  private static final int FACTS = 216;
  private static final int EVERYONE = 63;
  private static final int LETTERS = 3;
  private static final int Z = 2;
  private static final int MOST_RULES = 10;
  private static final int MOST_CONDITIONS = 3;
  private static final int GREATEST_CODE = 54;
  private static final int INPUT_LENGTH = 60;
  private static final int LINE_LENGTH = 24;
  private static final int UNDOABLE = 8;

  private static final int TEN_RULES = 1;
  private static final int IS_TOLD = 2;
  private static final int NOT_TOLD = 3;
  private static final int NOT_SAFE = 4;
  private static final int NOT_LAYERED = 5;
  private static final int SUCH_A_RULE = 6;

  private static final int DONE = 0;
  private static final int REFUSED = 1;
  private static final int WRONG = 2;

  private final State now = new State();
  private final State saved = new State();
  private final Past past = new Past();
  private final Derivation derivation = new Derivation();
  private final Again again = new Again();
  private final Layers trial = new Layers();
  private final Text text = new Text();
  private final Line written = new Line();
  private boolean isSaved = false;
  private int errorAt = -1;
  private int reason = 0;
  private int detail = 0;

  public KinFacts() {
  }

  // Facts

  public int tell(int relation, int one, int other)
      throws IllegalArgumentException, UnsupportedOperationException {
    if (!isFact(relation, one, other)) {
      throw new IllegalArgumentException("no such relation or person");
    }
    past.mark(now);
    if (!addFact(numberOf(relation, one, other))) {
      throw new UnsupportedOperationException("the fact is told");
    }
    past.keep();
    return held().size();
  }

  public int untell(int relation, int one, int other)
      throws IllegalArgumentException, UnsupportedOperationException {
    if (!isFact(relation, one, other)) {
      throw new IllegalArgumentException("no such relation or person");
    }
    past.mark(now);
    if (!takeFact(numberOf(relation, one, other))) {
      throw new UnsupportedOperationException("the fact is not told");
    }
    past.keep();
    return held().size();
  }

  public boolean holds(int relation, int one, int other, boolean isAgain)
      throws IllegalArgumentException {
    if (!isFact(relation, one, other)) {
      throw new IllegalArgumentException("no such relation or person");
    }
    int fact = numberOf(relation, one, other);
    if (!isAgain) {
      return held().has(fact);
    }
    return again.deriveFrom(now.told, now.rules).has(fact);
  }

  public boolean isTold(int relation, int one, int other) throws IllegalArgumentException {
    if (!isFact(relation, one, other)) {
      throw new IllegalArgumentException("no such relation or person");
    }
    return now.told.has(numberOf(relation, one, other));
  }

  public int factOf(int relation, int one, int other, int what)
      throws IllegalArgumentException, NoSuchElementException, IndexOutOfBoundsException {
    if (!isFact(relation, one, other)) {
      throw new IllegalArgumentException("no such relation or person");
    }
    int fact = numberOf(relation, one, other);
    Derivation derived = derivation.settled(now);
    if (!derived.facts.has(fact)) {
      throw new NoSuchElementException("the fact does not hold");
    }
    switch (what) {
      case 0:
        return derived.stages[fact];
      case 1:
        return derived.makers[fact];
      case 2:
        return derived.thirds[fact];
      case 3:
        return derived.depths[fact];
      case 4:
        return derived.sizeOf(fact);
      case 5:
        return derived.needs(now.rules, fact);
      default:
        throw new IndexOutOfBoundsException("no such number of a fact");
    }
  }

  public int ways(int relation, int one, int other) throws IllegalArgumentException {
    if (!isFact(relation, one, other)) {
      throw new IllegalArgumentException("no such relation or person");
    }
    return now.rules.waysTo(numberOf(relation, one, other), held());
  }

  public int would(int relation, int one, int other) throws IllegalArgumentException {
    if (!isFact(relation, one, other)) {
      throw new IllegalArgumentException("no such relation or person");
    }
    Facts otherwise = again.deriveWithout(numberOf(relation, one, other), now.told, now.rules);
    return otherwise.size() - held().size();
  }

  public int kin(int relation, int one) throws IllegalArgumentException {
    if (!isRelation(relation) || !isPerson(one)) {
      throw new IllegalArgumentException("no such relation or person");
    }
    return held().to(relation, one);
  }

  public int relationOf(int relation, int what)
      throws IllegalArgumentException, IndexOutOfBoundsException {
    if (!isRelation(relation)) {
      throw new IllegalArgumentException("no such relation");
    }
    switch (what) {
      case 0:
        return held().sizeOf(relation);
      case 1:
        return now.told.sizeOf(relation);
      case 2:
        return derivation.settled(now).layers.of(relation);
      case 3:
        return now.rules.headsWith(relation);
      case 4:
        return now.rules.conditionsWith(relation);
      case 5:
        return derivation.settled(now).lastStage(relation);
      default:
        throw new IndexOutOfBoundsException("no such number of a relation");
    }
  }

  public int ranked(int place) throws NoSuchElementException {
    Facts facts = held();
    for (int relation = 0; relation < RELATIONS; relation++) {
      if (rankOf(relation, facts) == place) {
        return relation;
      }
    }
    throw new NoSuchElementException("no such place");
  }

  public boolean isMutual(int relation) throws IllegalArgumentException {
    if (!isRelation(relation)) {
      throw new IllegalArgumentException("no such relation");
    }
    Facts facts = held();
    for (int person = 0; person < PERSONS; person++) {
      if (facts.to(relation, person) != facts.from(relation, person)) {
        return false;
      }
    }
    return true;
  }

  // Rules

  public int rule(int head, int first, int second, int third)
      throws IllegalArgumentException, UnsupportedOperationException {
    if (!isRule(head, first, second, third)) {
      throw new IllegalArgumentException("no such relation or condition");
    }
    past.mark(now);
    if (!addRule(head, first, second, third)) {
      throw new UnsupportedOperationException("the rule is refused");
    }
    past.keep();
    return now.rules.count - 1;
  }

  public int drop(int rule) throws IndexOutOfBoundsException {
    if (!now.rules.has(rule)) {
      throw new IndexOutOfBoundsException("no such rule");
    }
    past.mark(now);
    takeRule(rule);
    past.keep();
    return held().size();
  }

  public int ruleOf(int rule, int what)
      throws IndexOutOfBoundsException, IllegalArgumentException {
    if (!now.rules.has(rule)) {
      throw new IndexOutOfBoundsException("no such rule");
    }
    switch (what) {
      case 0:
        return now.rules.head(rule);
      case 1:
        return now.rules.conditionsOf(rule);
      case 2:
        return derivation.settled(now).derivationsWith(rule);
      case 3:
        return now.rules.makes(rule, held());
      default:
        throw new IllegalArgumentException("no such number of a rule");
    }
  }

  public int condition(int rule, int place)
      throws IndexOutOfBoundsException, NoSuchElementException {
    if (!now.rules.has(rule)) {
      throw new IndexOutOfBoundsException("no such rule");
    }
    int code = now.rules.code(rule, place);
    if (code == 0) {
      throw new NoSuchElementException("no such place");
    }
    return code;
  }

  public boolean wouldLayer(int head, int first, int second, int third)
      throws IllegalArgumentException {
    if (!isRule(head, first, second, third)) {
      throw new IllegalArgumentException("no such relation or condition");
    }
    now.rules.propose(head, first, second, third);
    return trial.arrange(now.rules, now.rules.count + 1);
  }

  // Layers and rounds

  public int layers() {
    return derivation.settled(now).layers.count();
  }

  public int rounds(int layer) throws NoSuchElementException {
    Derivation derived = derivation.settled(now);
    if (layer < 0 || layer >= derived.layers.count()) {
      throw new NoSuchElementException("no such layer");
    }
    return derived.roundsOf(layer);
  }

  public int fresh(int layer, int round) throws NoSuchElementException {
    Derivation derived = derivation.settled(now);
    if (layer < 0 || layer >= derived.layers.count()) {
      throw new NoSuchElementException("no such layer");
    }
    if (round < 1 || round > derived.roundsOf(layer)) {
      throw new NoSuchElementException("no such round");
    }
    return derived.freshIn(layer, round);
  }

  // Lines, texts, accounts, undo and snapshot

  public int line(int relation, int one, int other)
      throws IllegalArgumentException, NoSuchElementException {
    if (!isFact(relation, one, other)) {
      throw new IllegalArgumentException("no such relation or person");
    }
    int fact = numberOf(relation, one, other);
    if (!held().has(fact)) {
      throw new NoSuchElementException("the fact does not hold");
    }
    writeFact(fact);
    return written.length;
  }

  public int ruleLine(int rule) throws IndexOutOfBoundsException {
    if (!now.rules.has(rule)) {
      throw new IndexOutOfBoundsException("no such rule");
    }
    written.clear();
    written.addNumber('0', now.rules.head(rule));
    written.add('=');
    int places = now.rules.conditionsOf(rule);
    for (int place = 0; place < places; place++) {
      written.addCondition(now.rules.code(rule, place));
    }
    return written.length;
  }

  public char character(int index) throws IndexOutOfBoundsException {
    if (index < 0 || index >= written.length || index >= LINE_LENGTH) {
      throw new IndexOutOfBoundsException("no such index");
    }
    return written.signs[index];
  }

  public int append(char c) throws IllegalStateException {
    if (!text.add(c)) {
      throw new IllegalStateException("the input is full");
    }
    return text.length;
  }

  public int run() throws IllegalArgumentException, UnsupportedOperationException {
    errorAt = text.readOrders();
    text.clear();
    if (errorAt >= 0) {
      throw new IllegalArgumentException("the text has an error");
    }
    past.mark(now);
    int orders = text.orders;
    int outcome = DONE;
    for (int order = 0; order < orders && outcome == DONE; order++) {
      outcome = carryOut(order);
    }
    if (outcome != DONE) {
      past.giveBack(now);
      derivation.outdate();
    }
    if (outcome == WRONG) {
      throw new IllegalArgumentException("there is no such rule");
    }
    if (outcome == REFUSED) {
      throw new UnsupportedOperationException("an order is refused");
    }
    past.keep();
    return orders;
  }

  public int errorPosition() {
    return errorAt;
  }

  public int refusal(boolean isDetail) throws NoSuchElementException {
    if (reason == 0) {
      throw new NoSuchElementException("nothing was refused");
    }
    return isDetail ? detail : reason;
  }

  public int account(int what) throws IllegalArgumentException {
    switch (what) {
      case 0:
        return held().size();
      case 1:
        return now.told.size();
      case 2:
        return now.rules.count;
      case 3:
        return derivation.settled(now).allRounds();
      case 4:
        return derivation.settled(now).greatestStage();
      case 5:
        return derivation.settled(now).greatestDepth();
      case 6:
        return derivation.settled(now).greatestSize();
      case 7:
        return now.rules.negated();
      case 8:
        return text.length;
      case 9:
        return past.count;
      default:
        throw new IllegalArgumentException("no such account");
    }
  }

  public boolean isWell() {
    Derivation derived = derivation.settled(now);
    Facts second = again.deriveFrom(now.told, now.rules);
    return second.isSame(derived.facts)
        && now.rules.areClosed(derived.facts)
        && derived.areFounded(now);
  }

  public double meanDepth() throws ArithmeticException {
    int facts = held().size();
    if (facts == 0) {
      throw new ArithmeticException("no fact holds");
    }
    return (double) derivation.settled(now).allDepths() / (double) facts;
  }

  public float toldShare() throws ArithmeticException {
    int facts = held().size();
    if (facts == 0) {
      throw new ArithmeticException("no fact holds");
    }
    return (float) now.told.size() / (float) facts;
  }

  public int undo() throws IllegalStateException {
    if (past.count == 0) {
      throw new IllegalStateException("no change can be undone");
    }
    past.stepBack(now);
    derivation.outdate();
    return past.count;
  }

  public int save() {
    saved.copy(now);
    isSaved = true;
    return now.told.size();
  }

  public int restore() throws IllegalStateException {
    if (!isSaved) {
      throw new IllegalStateException("there is no snapshot");
    }
    now.copy(saved);
    past.forget();
    derivation.outdate();
    return now.told.size();
  }

  // What the face is made of

  private static boolean isRelation(int relation) {
    return relation >= 0 && relation < RELATIONS;
  }

  private static boolean isPerson(int person) {
    return person >= 0 && person < PERSONS;
  }

  private static boolean isFact(int relation, int one, int other) {
    return isRelation(relation) && isPerson(one) && isPerson(other);
  }

  private static boolean isCode(int code) {
    return code != 0 && code >= -GREATEST_CODE && code <= GREATEST_CODE;
  }

  private static boolean isRule(int head, int first, int second, int third) {
    if (!isRelation(head) || !isCode(first)) {
      return false;
    }
    if (second == 0) {
      return third == 0;
    }
    return isCode(second) && (third == 0 || isCode(third));
  }

  private static int numberOf(int relation, int one, int other) {
    return PAIRS * relation + PERSONS * one + other;
  }

  private static int codeOf(int relation, int first, int second) {
    return 1 + 9 * relation + 3 * first + second;
  }

  private static int relationIn(int code) {
    return ((code < 0 ? -code : code) - 1) / 9;
  }

  private static int firstIn(int code) {
    return ((code < 0 ? -code : code) - 1) / 3 % 3;
  }

  private static int secondIn(int code) {
    return ((code < 0 ? -code : code) - 1) % 3;
  }

  private static int lowestOf(int persons) {
    for (int person = 0; person < PERSONS; person++) {
      if ((persons >> person & 1) != 0) {
        return person;
      }
    }
    return 0;
  }

  private static int rankOf(int relation, Facts facts) {
    int size = facts.sizeOf(relation);
    int rank = 0;
    for (int rival = 0; rival < RELATIONS; rival++) {
      int its = facts.sizeOf(rival);
      if (its > size || its == size && rival < relation) {
        rank++;
      }
    }
    return rank;
  }

  private Facts held() {
    return derivation.settled(now).facts;
  }

  private boolean refuse(int why, int with) {
    reason = why;
    detail = with;
    return false;
  }

  private boolean addFact(int fact) {
    if (now.told.has(fact)) {
      return refuse(IS_TOLD, now.told.sizeOf(fact / PAIRS));
    }
    now.told.put(fact);
    derivation.outdate();
    return true;
  }

  private boolean takeFact(int fact) {
    if (!now.told.has(fact)) {
      return refuse(NOT_TOLD, derivation.settled(now).facts.has(fact) ? 1 : 0);
    }
    now.told.take(fact);
    derivation.outdate();
    return true;
  }

  private boolean addRule(int head, int first, int second, int third) {
    Rules rules = now.rules;
    rules.propose(head, first, second, third);
    int letter = rules.unsafeLetter();
    if (letter >= 0) {
      return refuse(NOT_SAFE, letter);
    }
    int same = rules.sameAsProposed();
    if (same >= 0) {
      return refuse(SUCH_A_RULE, same);
    }
    if (rules.count >= MOST_RULES) {
      return refuse(TEN_RULES, rules.count);
    }
    if (!trial.arrange(rules, rules.count + 1)) {
      return refuse(NOT_LAYERED, head);
    }
    rules.accept();
    derivation.outdate();
    return true;
  }

  private boolean takeRule(int rule) {
    if (!now.rules.has(rule)) {
      return false;
    }
    now.rules.remove(rule);
    derivation.outdate();
    return true;
  }

  private int carryOut(int order) {
    char kind = text.kind(order);
    int first = text.number(order, 0);
    int second = text.number(order, 1);
    int third = text.number(order, 2);
    if (kind == 'd') {
      return takeRule(first) ? DONE : WRONG;
    }
    if (kind == 'r') {
      return addRule(first, second, third, text.number(order, 3)) ? DONE : REFUSED;
    }
    int fact = numberOf(first, second, third);
    boolean isDone = kind == '+' ? addFact(fact) : takeFact(fact);
    return isDone ? DONE : REFUSED;
  }

  private void writeFact(int fact) {
    Derivation derived = derivation.settled(now);
    written.clear();
    written.addFact(fact);
    if (now.told.has(fact)) {
      written.add('.');
      return;
    }
    written.add('<');
    written.addNumber('0', derived.maker(fact));
    char ahead = ':';
    for (int place = 0; place < MOST_CONDITIONS; place++) {
      int need = derived.need(now.rules, fact, place);
      if (need >= 0) {
        written.add(ahead);
        written.addFact(need);
        ahead = ',';
      }
    }
  }

  /** A set of facts: for each relation and person, to whom it holds and from whom. */
  private static final class Facts {
    private final int[] to = new int[RELATIONS * PERSONS];
    private final int[] from = new int[RELATIONS * PERSONS];

    int to(int relation, int one) {
      int row = PERSONS * relation + one;
      return row >= 0 && row < to.length ? to[row] : 0;
    }

    int from(int relation, int other) {
      int row = PERSONS * relation + other;
      return row >= 0 && row < from.length ? from[row] : 0;
    }

    int toThemselves(int relation) {
      int persons = 0;
      for (int person = 0; person < PERSONS; person++) {
        int row = PERSONS * relation + person;
        if (row >= 0 && row < to.length) {
          persons |= to[row] & (1 << person);
        }
      }
      return persons;
    }

    boolean has(int fact) {
      int row = fact / PERSONS;
      return fact >= 0 && row < to.length && (to[row] >> fact % PERSONS & 1) != 0;
    }

    void put(int fact) {
      if (fact < 0 || fact >= FACTS) {
        return;
      }
      to[fact / PERSONS] |= 1 << fact % PERSONS;
      from[fact / PAIRS * PERSONS + fact % PERSONS] |= 1 << fact / PERSONS % PERSONS;
    }

    void take(int fact) {
      if (fact < 0 || fact >= FACTS) {
        return;
      }
      to[fact / PERSONS] &= ~(1 << fact % PERSONS);
      from[fact / PAIRS * PERSONS + fact % PERSONS] &= ~(1 << fact / PERSONS % PERSONS);
    }

    void clear() {
      for (int row = 0; row < to.length; row++) {
        to[row] = 0;
        from[row] = 0;
      }
    }

    void copy(Facts facts) {
      for (int row = 0; row < to.length; row++) {
        to[row] = facts.to[row];
        from[row] = facts.from[row];
      }
    }

    void join(Facts facts) {
      for (int row = 0; row < to.length; row++) {
        to[row] |= facts.to[row];
        from[row] |= facts.from[row];
      }
    }

    boolean isSame(Facts facts) {
      for (int row = 0; row < to.length; row++) {
        if (to[row] != facts.to[row] || from[row] != facts.from[row]) {
          return false;
        }
      }
      return true;
    }

    int sizeOf(int relation) {
      int size = 0;
      for (int person = 0; person < PERSONS; person++) {
        size += Integer.bitCount(to(relation, person));
      }
      return size;
    }

    int size() {
      int size = 0;
      for (int row = 0; row < to.length; row++) {
        size += Integer.bitCount(to[row]);
      }
      return size;
    }
  }

  /** The rules in their order; behind them there is room for one that is only proposed. */
  private static final class Rules {
    private final int[] heads = new int[MOST_RULES + 1];
    private final int[] codes = new int[(MOST_RULES + 1) * MOST_CONDITIONS];
    private final int[] candidates = new int[MOST_RULES + 1];
    private int count = 0;

    boolean has(int rule) {
      return rule >= 0 && rule < count;
    }

    int head(int rule) {
      return rule >= 0 && rule < heads.length ? heads[rule] : 0;
    }

    /** The condition at a place, 0 for none. */
    int code(int rule, int place) {
      if (rule < 0 || rule >= heads.length || place < 0 || place >= MOST_CONDITIONS) {
        return 0;
      }
      return codes[MOST_CONDITIONS * rule + place];
    }

    int conditionsOf(int rule) {
      int conditions = 0;
      for (int place = 0; place < MOST_CONDITIONS; place++) {
        if (code(rule, place) != 0) {
          conditions++;
        }
      }
      return conditions;
    }

    void propose(int head, int first, int second, int third) {
      if (count < 0 || count > MOST_RULES) {
        return;
      }
      heads[count] = head;
      codes[MOST_CONDITIONS * count] = first;
      codes[MOST_CONDITIONS * count + 1] = second;
      codes[MOST_CONDITIONS * count + 2] = third;
      boolean hasZ = hasZ(first) || hasZ(second) || hasZ(third);
      // one candidate alone lets a rule without z count for one way, with z as 0
      candidates[count] = hasZ ? EVERYONE : 1;
    }

    private static boolean hasZ(int code) {
      return code != 0 && (firstIn(code) == Z || secondIn(code) == Z);
    }

    void accept() {
      if (count < MOST_RULES) {
        count++;
      }
    }

    /** The lowest letter that the proposed rule leaves unbound, -1 if it is safe. */
    int unsafeLetter() {
      int bound = 0;
      int wanted = 3;
      for (int place = 0; place < MOST_CONDITIONS; place++) {
        int code = code(count, place);
        if (code > 0) {
          bound |= 1 << firstIn(code) | 1 << secondIn(code);
        } else if (code < 0) {
          wanted |= 1 << firstIn(code) | 1 << secondIn(code);
        }
      }
      for (int letter = 0; letter < LETTERS; letter++) {
        if ((wanted & ~bound & (1 << letter)) != 0) {
          return letter;
        }
      }
      return -1;
    }

    int sameAsProposed() {
      for (int rule = 0; rule < count; rule++) {
        if (head(rule) == head(count) && code(rule, 0) == code(count, 0)
            && code(rule, 1) == code(count, 1) && code(rule, 2) == code(count, 2)) {
          return rule;
        }
      }
      return -1;
    }

    void remove(int rule) {
      if (!has(rule) || count > MOST_RULES) {
        return;
      }
      for (int to = rule; to + 1 < count; to++) {
        heads[to] = heads[to + 1];
        candidates[to] = candidates[to + 1];
      }
      for (int to = MOST_CONDITIONS * rule; to < MOST_CONDITIONS * (count - 1); to++) {
        codes[to] = codes[to + MOST_CONDITIONS];
      }
      count--;
    }

    void copy(Rules rules) {
      count = rules.count;
      for (int rule = 0; rule < heads.length; rule++) {
        heads[rule] = rules.heads[rule];
        candidates[rule] = rules.candidates[rule];
      }
      for (int at = 0; at < codes.length; at++) {
        codes[at] = rules.codes[at];
      }
    }

    int headsWith(int relation) {
      int heads = 0;
      for (int rule = 0; rule < count; rule++) {
        if (head(rule) == relation) {
          heads++;
        }
      }
      return heads;
    }

    int conditionsWith(int relation) {
      int conditions = 0;
      for (int rule = 0; rule < count; rule++) {
        for (int place = 0; place < MOST_CONDITIONS; place++) {
          int code = code(rule, place);
          if (code != 0 && relationIn(code) == relation) {
            conditions++;
          }
        }
      }
      return conditions;
    }

    int negated() {
      int conditions = 0;
      for (int rule = 0; rule < count; rule++) {
        for (int place = 0; place < MOST_CONDITIONS; place++) {
          if (code(rule, place) < 0) {
            conditions++;
          }
        }
      }
      return conditions;
    }

    /** The persons z with which a rule makes a fact of x and y, by some recent fact among all. */
    int makersOf(int rule, int x, int y, Facts all, Facts recent) {
      if (rule < 0 || rule >= heads.length) {
        return 0;
      }
      int persons = candidates[rule];
      int touched = 0;
      for (int place = 0; place < MOST_CONDITIONS && persons != 0; place++) {
        int code = code(rule, place);
        if (code != 0) {
          persons &= fulfilling(code, x, y, all);
        }
        if (code > 0) {
          touched |= fulfilling(code, x, y, recent);
        }
      }
      return persons & touched;
    }

    /** The persons z with whom a condition is fulfilled: all or none if it is not about z. */
    private static int fulfilling(int code, int x, int y, Facts facts) {
      int relation = relationIn(code);
      int first = firstIn(code);
      int second = secondIn(code);
      int one = first == 0 ? x : y;
      int other = second == 0 ? x : y;
      int persons;
      if (first == Z) {
        persons = second == Z ? facts.toThemselves(relation) : facts.from(relation, other);
      } else if (second == Z) {
        persons = facts.to(relation, one);
      } else {
        persons = (facts.to(relation, one) >> other & 1) != 0 ? EVERYONE : 0;
      }
      return code < 0 ? EVERYONE & ~persons : persons;
    }

    int waysTo(int fact, Facts all) {
      int ways = 0;
      for (int rule = 0; rule < count; rule++) {
        if (head(rule) == fact / PAIRS) {
          int persons = makersOf(rule, fact / PERSONS % PERSONS, fact % PERSONS, all, all);
          ways += Integer.bitCount(persons);
        }
      }
      return ways;
    }

    int makes(int rule, Facts all) {
      int facts = 0;
      for (int pair = 0; pair < PAIRS; pair++) {
        if (makersOf(rule, pair / PERSONS, pair % PERSONS, all, all) != 0) {
          facts++;
        }
      }
      return facts;
    }

    /** Whether no rule makes a fact beyond these. */
    boolean areClosed(Facts all) {
      for (int fact = 0; fact < FACTS; fact++) {
        if (!all.has(fact) && waysTo(fact, all) != 0) {
          return false;
        }
      }
      return true;
    }
  }

  /** The layer of each relation. */
  private static final class Layers {
    private final int[] layers = new int[RELATIONS];

    int of(int relation) {
      return relation >= 0 && relation < layers.length ? layers[relation] : 0;
    }

    int count() {
      int highest = 0;
      for (int relation = 0; relation < layers.length; relation++) {
        highest = Math.max(highest, layers[relation]);
      }
      return highest + 1;
    }

    /** Finds the least layers for as many rules from the first on; whether there are any. */
    boolean arrange(Rules rules, int ruleCount) {
      for (int relation = 0; relation < layers.length; relation++) {
        layers[relation] = 0;
      }
      // each pass but the last one lifts a relation, and those of layered rules stay below 6
      for (int pass = 0; pass <= RELATIONS * RELATIONS; pass++) {
        if (!lift(rules, ruleCount)) {
          return true;
        }
        if (count() > RELATIONS) {
          return false;
        }
      }
      return false;
    }

    private boolean lift(Rules rules, int ruleCount) {
      boolean isLifted = false;
      for (int rule = 0; rule < ruleCount; rule++) {
        int head = rules.head(rule);
        for (int place = 0; place < MOST_CONDITIONS; place++) {
          int code = rules.code(rule, place);
          int least = code == 0 ? 0 : of(relationIn(code)) + (code < 0 ? 1 : 0);
          if (of(head) < least) {
            raise(head, least);
            isLifted = true;
          }
        }
      }
      return isLifted;
    }

    private void raise(int relation, int layer) {
      if (relation >= 0 && relation < layers.length) {
        layers[relation] = layer;
      }
    }
  }

  /** What changes can change. */
  private static final class State {
    private final Facts told = new Facts();
    private final Rules rules = new Rules();

    void copy(State state) {
      told.copy(state.told);
      rules.copy(state.rules);
    }
  }

  /** All that holds, derived by new facts round by round, and how each fact came to hold. */
  private static final class Derivation {
    private final Facts facts = new Facts();
    private final Facts recent = new Facts();
    private final Facts added = new Facts();
    private final Layers layers = new Layers();
    private final int[] stages = new int[FACTS];
    private final int[] makers = new int[FACTS];
    private final int[] thirds = new int[FACTS];
    private final int[] depths = new int[FACTS];
    /** For each fact, with itself, all that it needs: for each relation its pairs as bits. */
    private final long[] roots = new long[FACTS * RELATIONS];
    private boolean isSettled = false;

    void outdate() {
      isSettled = false;
    }

    Derivation settled(State state) {
      if (isSettled) {
        return this;
      }
      start(state.told);
      layers.arrange(state.rules, state.rules.count);
      int layersNow = layers.count();
      for (int layer = 0; layer < layersNow; layer++) {
        // in the round 1 all may count as new: each rule has a condition that is not negated
        recent.copy(facts);
        for (int round = 1; round <= FACTS; round++) {
          added.clear();
          if (!addRound(state.rules, layer, round)) {
            break;
          }
          facts.join(added);
          recent.copy(added);
        }
      }
      isSettled = true;
      return this;
    }

    private void start(Facts told) {
      facts.copy(told);
      for (int at = 0; at < roots.length; at++) {
        roots[at] = 0;
      }
      for (int fact = 0; fact < FACTS; fact++) {
        stages[fact] = 0;
        makers[fact] = -1;
        thirds[fact] = -1;
        depths[fact] = 0;
        roots[RELATIONS * fact + fact / PAIRS] = 1L << fact % PAIRS;
      }
    }

    private boolean addRound(Rules rules, int layer, int round) {
      boolean isNew = false;
      for (int rule = 0; rule < rules.count; rule++) {
        int head = rules.head(rule);
        if (layers.of(head) != layer) {
          continue;
        }
        for (int pair = 0; pair < PAIRS; pair++) {
          int fact = PAIRS * head + pair;
          if (facts.has(fact) || added.has(fact)) {
            continue;
          }
          int persons = rules.makersOf(rule, pair / PERSONS, pair % PERSONS, facts, recent);
          if (persons != 0) {
            enter(fact, round, rule, lowestOf(persons));
            rest(rules, fact);
            isNew = true;
          }
        }
      }
      return isNew;
    }

    private void enter(int fact, int round, int rule, int third) {
      if (fact < 0 || fact >= FACTS) {
        return;
      }
      stages[fact] = round;
      makers[fact] = rule;
      thirds[fact] = third;
      added.put(fact);
    }

    /** Rests a derived fact on those that it needs. */
    private void rest(Rules rules, int fact) {
      for (int place = 0; place < MOST_CONDITIONS; place++) {
        int need = need(rules, fact, place);
        if (fact < 0 || fact >= FACTS || need < 0 || need >= FACTS) {
          continue;
        }
        depths[fact] = Math.max(depths[fact], depths[need] + 1);
        for (int relation = 0; relation < RELATIONS; relation++) {
          roots[RELATIONS * fact + relation] |= roots[RELATIONS * need + relation];
        }
      }
    }

    int maker(int fact) {
      return fact >= 0 && fact < makers.length ? makers[fact] : -1;
    }

    /** The fact of the condition at a place of a fact's derivation, -1 for none. */
    int need(Rules rules, int fact, int place) {
      if (fact < 0 || fact >= FACTS) {
        return -1;
      }
      int code = rules.code(makers[fact], place);
      if (code <= 0) {
        return -1;
      }
      int one = person(firstIn(code), fact, thirds[fact]);
      int other = person(secondIn(code), fact, thirds[fact]);
      return numberOf(relationIn(code), one, other);
    }

    private static int person(int letter, int fact, int third) {
      if (letter == Z) {
        return third;
      }
      return letter == 0 ? fact / PERSONS % PERSONS : fact % PERSONS;
    }

    int needs(Rules rules, int fact) {
      int first = need(rules, fact, 0);
      int second = need(rules, fact, 1);
      int third = need(rules, fact, 2);
      int needs = first >= 0 ? 1 : 0;
      if (second >= 0 && second != first) {
        needs++;
      }
      if (third >= 0 && third != first && third != second) {
        needs++;
      }
      return needs;
    }

    int sizeOf(int fact) {
      if (fact < 0 || fact >= FACTS) {
        return 0;
      }
      int size = 0;
      for (int relation = 0; relation < RELATIONS; relation++) {
        size += Long.bitCount(roots[RELATIONS * fact + relation]);
      }
      return size;
    }

    int derivationsWith(int rule) {
      int derivations = 0;
      for (int fact = 0; fact < FACTS; fact++) {
        if (makers[fact] == rule) {
          derivations++;
        }
      }
      return derivations;
    }

    int lastStage(int relation) {
      int last = 0;
      for (int fact = 0; fact < FACTS; fact++) {
        if (fact / PAIRS == relation) {
          last = Math.max(last, stages[fact]);
        }
      }
      return last;
    }

    int roundsOf(int layer) {
      int rounds = 0;
      for (int relation = 0; relation < RELATIONS; relation++) {
        if (layers.of(relation) == layer) {
          rounds = Math.max(rounds, lastStage(relation));
        }
      }
      return rounds;
    }

    int allRounds() {
      int rounds = 0;
      int layersNow = layers.count();
      for (int layer = 0; layer < layersNow; layer++) {
        rounds += roundsOf(layer);
      }
      return rounds;
    }

    int freshIn(int layer, int round) {
      int facts = 0;
      for (int fact = 0; fact < FACTS; fact++) {
        if (stages[fact] == round && layers.of(fact / PAIRS) == layer) {
          facts++;
        }
      }
      return facts;
    }

    int greatestStage() {
      int greatest = 0;
      for (int fact = 0; fact < FACTS; fact++) {
        greatest = Math.max(greatest, stages[fact]);
      }
      return greatest;
    }

    int greatestDepth() {
      int greatest = 0;
      for (int fact = 0; fact < FACTS; fact++) {
        greatest = Math.max(greatest, depths[fact]);
      }
      return greatest;
    }

    int greatestSize() {
      int greatest = 0;
      for (int fact = 0; fact < FACTS; fact++) {
        if (facts.has(fact)) {
          greatest = Math.max(greatest, sizeOf(fact));
        }
      }
      return greatest;
    }

    int allDepths() {
      int depth = 0;
      for (int fact = 0; fact < FACTS; fact++) {
        depth += depths[fact];
      }
      return depth;
    }

    /** Whether each derived fact can be made and what it needs holds. */
    boolean areFounded(State state) {
      for (int fact = 0; fact < FACTS; fact++) {
        if (!facts.has(fact) || state.told.has(fact)) {
          continue;
        }
        if (state.rules.waysTo(fact, facts) == 0) {
          return false;
        }
        for (int place = 0; place < MOST_CONDITIONS; place++) {
          int need = need(state.rules, fact, place);
          if (need >= 0 && !facts.has(need)) {
            return false;
          }
        }
      }
      return true;
    }
  }

  /** The second way: all rules of a layer with all facts, until none makes more. */
  private static final class Again {
    private final Facts facts = new Facts();
    private final Layers layers = new Layers();

    Facts deriveFrom(Facts told, Rules rules) {
      facts.copy(told);
      deriveAll(rules);
      return facts;
    }

    /** What would hold if a fact was not told, or was told if it is not. */
    Facts deriveWithout(int fact, Facts told, Rules rules) {
      facts.copy(told);
      if (told.has(fact)) {
        facts.take(fact);
      } else {
        facts.put(fact);
      }
      deriveAll(rules);
      return facts;
    }

    private void deriveAll(Rules rules) {
      layers.arrange(rules, rules.count);
      int layersNow = layers.count();
      for (int layer = 0; layer < layersNow; layer++) {
        // each pass but the last one makes a fact at least
        for (int pass = 0; pass <= FACTS; pass++) {
          if (!makeMore(rules, layer)) {
            break;
          }
        }
      }
    }

    private boolean makeMore(Rules rules, int layer) {
      boolean isMore = false;
      for (int rule = 0; rule < rules.count; rule++) {
        int head = rules.head(rule);
        if (layers.of(head) != layer) {
          continue;
        }
        for (int pair = 0; pair < PAIRS; pair++) {
          int fact = PAIRS * head + pair;
          if (!facts.has(fact)
              && rules.makersOf(rule, pair / PERSONS, pair % PERSONS, facts, facts) != 0) {
            facts.put(fact);
            isMore = true;
          }
        }
      }
      return isMore;
    }
  }

  /** The states ahead of the latest changes, and one ahead of a change that is being tried. */
  private static final class Past {
    private final State[] states = new State[UNDOABLE + 1];
    private int next = 0;
    private int count = 0;

    Past() {
      for (int at = 0; at < states.length; at++) {
        states[at] = new State();
      }
    }

    void mark(State now) {
      State state = marked();
      if (state != null) {
        state.copy(now);
      }
    }

    void giveBack(State now) {
      State state = marked();
      if (state != null) {
        now.copy(state);
      }
    }

    private State marked() {
      return next >= 0 && next < states.length ? states[next] : null;
    }

    void keep() {
      next = next < UNDOABLE ? next + 1 : 0;
      count = Math.min(count + 1, UNDOABLE);
    }

    void stepBack(State now) {
      next = next > 0 ? next - 1 : UNDOABLE;
      count = Math.max(count - 1, 0);
      giveBack(now);
    }

    void forget() {
      count = 0;
    }
  }

  /** The input, and the orders that are read from it. */
  private static final class Text {
    private static final int MOST_ORDERS = 21;
    private static final int NUMBERS = 4;

    private final char[] signs = new char[INPUT_LENGTH];
    private final char[] kinds = new char[MOST_ORDERS];
    private final int[] numbers = new int[MOST_ORDERS * NUMBERS];
    private int length = 0;
    private int orders = 0;
    private int at = 0;

    boolean add(char c) {
      if (length >= signs.length) {
        return false;
      }
      signs[length] = c;
      length++;
      return true;
    }

    void clear() {
      length = 0;
    }

    char kind(int order) {
      return order >= 0 && order < kinds.length ? kinds[order] : ' ';
    }

    int number(int order, int place) {
      int index = NUMBERS * order + place;
      return index >= 0 && index < numbers.length ? numbers[index] : 0;
    }

    /** Reads the whole input: -1, or the offset of the first sign that cannot continue. */
    int readOrders() {
      at = 0;
      orders = 0;
      for (int order = 0; order < MOST_ORDERS; order++) {
        if (!readOrder(order)) {
          return at;
        }
        orders++;
        if (at >= length) {
          return -1;
        }
        if (!skip(';')) {
          return at;
        }
      }
      return at;
    }

    private boolean readOrder(int order) {
      if (skip('+')) {
        return readFact(order, '+');
      }
      if (skip('-')) {
        return readFact(order, '-');
      }
      if (skip('r')) {
        return readRule(order);
      }
      return skip('d') && readNumber(order, 0, '0', 10) && note(order, 'd');
    }

    private boolean readFact(int order, char kind) {
      return readNumber(order, 0, '0', RELATIONS)
          && readNumber(order, 1, 'a', PERSONS)
          && readNumber(order, 2, 'a', PERSONS)
          && note(order, kind);
    }

    private boolean readRule(int order) {
      if (!readNumber(order, 0, '0', RELATIONS) || !skip('=')) {
        return false;
      }
      for (int place = 1; place <= MOST_CONDITIONS; place++) {
        boolean isThere = place == 1 || startsCondition();
        if (isThere && !readCondition(order, place)) {
          return false;
        }
        if (!isThere) {
          put(order, place, 0);
        }
      }
      return note(order, 'r');
    }

    private boolean startsCondition() {
      if (at < 0 || at >= length || at >= signs.length) {
        return false;
      }
      return signs[at] == '!' || signs[at] >= '0' && signs[at] < '0' + RELATIONS;
    }

    private boolean readCondition(int order, int place) {
      boolean isNegated = skip('!');
      int relation = read('0', RELATIONS);
      int first = relation < 0 ? -1 : read('x', LETTERS);
      int second = first < 0 ? -1 : read('x', LETTERS);
      if (second < 0) {
        return false;
      }
      int code = codeOf(relation, first, second);
      put(order, place, isNegated ? -code : code);
      return true;
    }

    private boolean readNumber(int order, int place, char lowest, int choices) {
      int number = read(lowest, choices);
      put(order, place, number);
      return number >= 0;
    }

    private boolean skip(char sign) {
      return read(sign, 1) == 0;
    }

    /** Reads one of as many signs from the lowest on; -1, and nothing read, if there is none. */
    private int read(char lowest, int choices) {
      if (at < 0 || at >= length || at >= signs.length) {
        return -1;
      }
      int number = signs[at] - lowest;
      if (number < 0 || number >= choices) {
        return -1;
      }
      at++;
      return number;
    }

    private void put(int order, int place, int number) {
      int index = NUMBERS * order + place;
      if (index >= 0 && index < numbers.length) {
        numbers[index] = number;
      }
    }

    private boolean note(int order, char kind) {
      if (order < 0 || order >= kinds.length) {
        return false;
      }
      kinds[order] = kind;
      return true;
    }
  }

  /** The line that was written last. */
  private static final class Line {
    private final char[] signs = new char[LINE_LENGTH];
    private int length = 0;

    void clear() {
      length = 0;
    }

    void add(char sign) {
      if (length < signs.length) {
        signs[length] = sign;
        length++;
      }
    }

    void addNumber(char lowest, int number) {
      add((char) (lowest + number));
    }

    void addFact(int fact) {
      addNumber('0', fact / PAIRS);
      addNumber('a', fact / PERSONS % PERSONS);
      addNumber('a', fact % PERSONS);
    }

    void addCondition(int code) {
      if (code < 0) {
        add('!');
      }
      addNumber('0', relationIn(code));
      addNumber('x', firstIn(code));
      addNumber('x', secondIn(code));
    }
  }
}
