import java.util.ArrayList;
import java.util.HashMap;
import java.util.HashSet;
import java.util.List;
import java.util.Map;
import java.util.NoSuchElementException;
import java.util.Set;
import java.util.TreeMap;
import java.util.TreeSet;
import java.util.regex.Matcher;
import java.util.regex.Pattern;

/** The document's words in the plainest Java, facts and conditions as texts, to compare with. */
final class Model {
  private static final String PERSONS = "abcdef";
  private static final String CONDITION = "!?[0-5][xyz][xyz]";
  private static final String ORDER =
      "([+-][0-5][a-f][a-f]|r[0-5]=" + CONDITION + "(" + CONDITION + "){0,2}|d[0-9])";
  private static final Pattern TEXT = Pattern.compile(ORDER + "(;" + ORDER + ")*");

  /** A derived fact's round, rule, person z, and what it needs by its conditions. */
  private record Made(int stage, int rule, int z, List<String> needs) {
  }

  private record Derived(Map<String, Made> facts, List<List<Integer>> rounds, int[] layers,
      Map<String, Integer> depths) {
  }

  private record State(Set<String> told, List<String> rules) {
    State copy() {
      return new State(new TreeSet<>(told), new ArrayList<>(rules));
    }
  }

  private State state = new State(new TreeSet<>(), new ArrayList<>());
  private State saved = null;
  private final List<State> past = new ArrayList<>();
  private String input = "";
  private String line = "";
  private int error = -1;
  private int reason = 0;
  private int detail = 0;

  // Deriving

  private static String head(String rule) {
    return rule.substring(0, 1);
  }

  private static List<String> conditions(String rule) {
    List<String> conditions = new ArrayList<>();
    Matcher matcher = Pattern.compile(CONDITION).matcher(rule.substring(2));
    while (matcher.find()) {
      conditions.add(matcher.group());
    }
    return conditions;
  }

  private static boolean isNegated(String condition) {
    return condition.startsWith("!");
  }

  private static String bare(String condition) {
    return isNegated(condition) ? condition.substring(1) : condition;
  }

  private static String fact(String condition, char x, char y, char z) {
    return bare(condition).replace('x', x).replace('y', y).replace('z', z);
  }

  /** The least layers, null if there are none: found by trying from below. */
  private static int[] layers(List<String> rules) {
    int[] layers = new int[6];
    for (int turn = 0; turn < 1000; turn++) {
      boolean isGood = true;
      for (String rule : rules) {
        int head = Integer.parseInt(head(rule));
        for (String condition : conditions(rule)) {
          int other = layers[bare(condition).charAt(0) - '0'];
          if (isNegated(condition) ? layers[head] <= other : layers[head] < other) {
            layers[head]++;
            isGood = false;
          }
        }
      }
      if (isGood) {
        return layers;
      }
    }
    return null;
  }

  /** For the facts that a rule makes: each way by its z, -1 for a rule without z. */
  private static List<Integer> ways(String rule, char x, char y, Set<String> hold) {
    List<Integer> ways = new ArrayList<>();
    boolean hasZ = rule.indexOf('z') >= 0;
    for (int z = 0; z < (hasZ ? 6 : 1); z++) {
      boolean isMade = true;
      for (String condition : conditions(rule)) {
        isMade &= hold.contains(fact(condition, x, y, PERSONS.charAt(z))) != isNegated(condition);
      }
      if (isMade) {
        ways.add(z);
      }
    }
    return ways;
  }

  /** What was derived of the latest states: only to save time. */
  private final Map<State, Derived> known = new HashMap<>();

  private Derived derive(State state) {
    Derived derived = known.get(state);
    if (derived == null) {
      if (known.size() > 30) {
        known.clear();
      }
      derived = deriveNew(state);
      known.put(state.copy(), derived);
    }
    return derived;
  }

  private static Derived deriveNew(State state) {
    int[] layers = layers(state.rules);
    Map<String, Made> facts = new TreeMap<>();
    for (String told : state.told) {
      facts.put(told, new Made(0, -1, -1, List.of()));
    }
    List<List<Integer>> rounds = new ArrayList<>();
    int highest = 0;
    for (int layer : layers) {
      highest = Math.max(highest, layer);
    }
    for (int layer = 0; layer <= highest; layer++) {
      List<Integer> counts = new ArrayList<>();
      Set<String> before = null;
      while (true) {
        Map<String, Made> added = new HashMap<>();
        for (int rule = 0; rule < state.rules.size(); rule++) {
          if (layers[state.rules.get(rule).charAt(0) - '0'] == layer) {
            add(state.rules.get(rule), rule, counts.size() + 1, before, facts, added);
          }
        }
        if (added.isEmpty()) {
          break;
        }
        counts.add(added.size());
        facts.putAll(added);
        before = added.keySet();
      }
      rounds.add(counts);
    }
    return new Derived(facts, rounds, layers, new HashMap<>());
  }

  private static void add(String rule, int number, int round, Set<String> before,
      Map<String, Made> facts, Map<String, Made> added) {
    for (char x : PERSONS.toCharArray()) {
      for (char y : PERSONS.toCharArray()) {
        String fact = head(rule) + x + y;
        if (facts.containsKey(fact) || added.containsKey(fact)) {
          continue;
        }
        for (int z : ways(rule, x, y, facts.keySet())) {
          List<String> needs = new ArrayList<>();
          boolean isByNew = before == null;
          for (String condition : conditions(rule)) {
            if (!isNegated(condition)) {
              String need = fact(condition, x, y, PERSONS.charAt(z));
              needs.add(need);
              isByNew |= before != null && before.contains(need);
            }
          }
          if (isByNew) {
            added.put(fact, new Made(round, number, z, needs));
            break;
          }
        }
      }
    }
  }

  private static int depth(Derived derived, String fact) {
    int depth = 0;
    if (derived.depths.containsKey(fact)) {
      return derived.depths.get(fact);
    }
    for (String need : derived.facts.get(fact).needs) {
      depth = Math.max(depth, depth(derived, need) + 1);
    }
    derived.depths.put(fact, depth);
    return depth;
  }

  private static void gather(Derived derived, String fact, Set<String> all) {
    if (all.add(fact)) {
      for (String need : derived.facts.get(fact).needs) {
        gather(derived, need, all);
      }
    }
  }

  private static int size(Derived derived, String fact) {
    Set<String> all = new HashSet<>();
    gather(derived, fact, all);
    return all.size();
  }

  // Help for the face

  private static void must(boolean isSo) {
    if (!isSo) {
      throw new IllegalArgumentException();
    }
  }

  private static boolean isDigit(int number) {
    return number >= 0 && number <= 5;
  }

  private static String named(int relation, int one, int other) {
    must(isDigit(relation) && isDigit(one) && isDigit(other));
    return "" + relation + PERSONS.charAt(one) + PERSONS.charAt(other);
  }

  private static String condition(int code) {
    int number = Math.abs(code) - 1;
    return (code < 0 ? "!" : "") + number / 9 + "xyz".charAt(number / 3 % 3) + "xyz".charAt(number % 3);
  }

  private static int code(String condition) {
    String bare = bare(condition);
    int code = 1 + 9 * (bare.charAt(0) - '0') + 3 * (bare.charAt(1) - 'x') + (bare.charAt(2) - 'x');
    return isNegated(condition) ? -code : code;
  }

  private static String written(int head, int first, int second, int third) {
    must(isDigit(head));
    must(first != 0 && (second != 0 || third == 0));
    StringBuilder rule = new StringBuilder(head + "=");
    for (int code : new int[] {first, second, third}) {
      must(code >= -54 && code <= 54);
      rule.append(code == 0 ? "" : condition(code));
    }
    return rule.toString();
  }

  private static int unsafe(String rule) {
    for (int letter = 0; letter < 3; letter++) {
      char sign = "xyz".charAt(letter);
      boolean stands = false;
      boolean mustStand = letter < 2;
      for (String condition : conditions(rule)) {
        boolean has = condition.indexOf(sign) >= 0;
        stands |= has && !isNegated(condition);
        mustStand |= has && isNegated(condition);
      }
      if (mustStand && !stands) {
        return letter;
      }
    }
    return -1;
  }

  private int told(String relation) {
    int told = 0;
    for (String fact : state.told) {
      told += fact.startsWith(relation) ? 1 : 0;
    }
    return told;
  }

  /** A fact that holds, by any number: its relation and persons, null if none holds. */
  int[] someFact(int number) {
    List<String> facts = new ArrayList<>(hold());
    if (facts.isEmpty()) {
      return null;
    }
    String fact = facts.get(number % facts.size());
    return new int[] {fact.charAt(0) - '0', fact.charAt(1) - 'a', fact.charAt(2) - 'a'};
  }

  private Set<String> hold() {
    return derive(state).facts.keySet();
  }

  private void refuse(int why, int with) {
    reason = why;
    detail = with;
    throw new UnsupportedOperationException();
  }

  private void changed(State before) {
    past.add(before);
    if (past.size() > 8) {
      past.remove(0);
    }
  }

  private String ruleAt(int rule) {
    if (rule < 0 || rule >= state.rules.size()) {
      throw new IndexOutOfBoundsException();
    }
    return state.rules.get(rule);
  }

  private List<Integer> roundsAt(int layer) {
    List<List<Integer>> rounds = derive(state).rounds;
    if (layer < 0 || layer >= rounds.size()) {
      throw new NoSuchElementException();
    }
    return rounds.get(layer);
  }

  private void doTell(String fact) {
    if (state.told.contains(fact)) {
      refuse(2, told(fact.substring(0, 1)));
    }
    state.told.add(fact);
  }

  private void doUntell(String fact) {
    if (!state.told.contains(fact)) {
      refuse(3, hold().contains(fact) ? 1 : 0);
    }
    state.told.remove(fact);
  }

  private int doRule(String rule) {
    if (unsafe(rule) >= 0) {
      refuse(4, unsafe(rule));
    }
    if (state.rules.contains(rule)) {
      refuse(6, state.rules.indexOf(rule));
    }
    if (state.rules.size() == 10) {
      refuse(1, 10);
    }
    List<String> more = new ArrayList<>(state.rules);
    more.add(rule);
    if (layers(more) == null) {
      refuse(5, Integer.parseInt(head(rule)));
    }
    state.rules.add(rule);
    return state.rules.size() - 1;
  }

  // The face

  int tell(int relation, int one, int other) {
    String fact = named(relation, one, other);
    State before = state.copy();
    doTell(fact);
    changed(before);
    return hold().size();
  }

  int untell(int relation, int one, int other) {
    String fact = named(relation, one, other);
    State before = state.copy();
    doUntell(fact);
    changed(before);
    return hold().size();
  }

  boolean holds(int relation, int one, int other) {
    return hold().contains(named(relation, one, other));
  }

  boolean isTold(int relation, int one, int other) {
    return state.told.contains(named(relation, one, other));
  }

  int factOf(int relation, int one, int other, int what) {
    String fact = named(relation, one, other);
    Derived derived = derive(state);
    Made made = derived.facts.get(fact);
    if (made == null) {
      throw new NoSuchElementException();
    }
    switch (what) {
      case 0: return made.stage;
      case 1: return made.rule;
      case 2: return made.z;
      case 3: return depth(derived, fact);
      case 4: return size(derived, fact);
      case 5: return new HashSet<>(made.needs).size();
      default: throw new IndexOutOfBoundsException();
    }
  }

  int ways(int relation, int one, int other) {
    String fact = named(relation, one, other);
    return ways(fact);
  }

  private int ways(String fact) {
    Set<String> hold = hold();
    int ways = 0;
    for (String rule : state.rules) {
      if (rule.charAt(0) == fact.charAt(0)) {
        ways += ways(rule, fact.charAt(1), fact.charAt(2), hold).size();
      }
    }
    return ways;
  }

  int would(int relation, int one, int other) {
    String fact = named(relation, one, other);
    State otherwise = state.copy();
    if (!otherwise.told.remove(fact)) {
      otherwise.told.add(fact);
    }
    return derive(otherwise).facts.size() - hold().size();
  }

  int kin(int relation, int one) {
    must(isDigit(relation) && isDigit(one));
    int kin = 0;
    for (int other = 0; other < 6; other++) {
      kin += holds(relation, one, other) ? 1 << other : 0;
    }
    return kin;
  }

  int relationOf(int relation, int what) {
    must(isDigit(relation));
    Derived derived = derive(state);
    int number = 0;
    switch (what) {
      case 0:
      case 5:
        for (Map.Entry<String, Made> entry : derived.facts.entrySet()) {
          if (entry.getKey().startsWith("" + relation)) {
            number = what == 0 ? number + 1 : Math.max(number, entry.getValue().stage);
          }
        }
        return number;
      case 1:
        return told("" + relation);
      case 2:
        return derived.layers[relation];
      case 3:
      case 4:
        for (String rule : state.rules) {
          if (what == 3) {
            number += rule.startsWith(relation + "=") ? 1 : 0;
          } else {
            for (String condition : conditions(rule)) {
              number += bare(condition).startsWith("" + relation) ? 1 : 0;
            }
          }
        }
        return number;
      default:
        throw new IndexOutOfBoundsException();
    }
  }

  int ranked(int place) {
    if (!isDigit(place)) {
      throw new NoSuchElementException();
    }
    List<Integer> relations = new ArrayList<>(List.of(0, 1, 2, 3, 4, 5));
    relations.sort((a, b) -> relationOf(b, 0) - relationOf(a, 0));
    return relations.get(place);
  }

  boolean isMutual(int relation) {
    must(isDigit(relation));
    Set<String> hold = hold();
    for (String fact : hold) {
      if (fact.startsWith("" + relation)
          && !hold.contains("" + relation + fact.charAt(2) + fact.charAt(1))) {
        return false;
      }
    }
    return true;
  }

  int rule(int head, int first, int second, int third) {
    String rule = written(head, first, second, third);
    State before = state.copy();
    int number = doRule(rule);
    changed(before);
    return number;
  }

  int drop(int rule) {
    ruleAt(rule);
    State before = state.copy();
    state.rules.remove(rule);
    changed(before);
    return hold().size();
  }

  int ruleOf(int rule, int what) {
    String it = ruleAt(rule);
    Derived derived = derive(state);
    int number = 0;
    switch (what) {
      case 0:
        return Integer.parseInt(head(it));
      case 1:
        return conditions(it).size();
      case 2:
        for (Made made : derived.facts.values()) {
          number += made.rule == rule ? 1 : 0;
        }
        return number;
      case 3:
        for (char x : PERSONS.toCharArray()) {
          for (char y : PERSONS.toCharArray()) {
            number += ways(it, x, y, derived.facts.keySet()).isEmpty() ? 0 : 1;
          }
        }
        return number;
      default:
        throw new IllegalArgumentException();
    }
  }

  int condition(int rule, int place) {
    List<String> conditions = conditions(ruleAt(rule));
    if (place < 0 || place >= conditions.size()) {
      throw new NoSuchElementException();
    }
    return code(conditions.get(place));
  }

  boolean wouldLayer(int head, int first, int second, int third) {
    List<String> more = new ArrayList<>(state.rules);
    more.add(written(head, first, second, third));
    return layers(more) != null;
  }

  int layers() {
    return derive(state).rounds.size();
  }

  int rounds(int layer) {
    return roundsAt(layer).size();
  }

  int fresh(int layer, int round) {
    List<Integer> rounds = roundsAt(layer);
    if (round < 1 || round > rounds.size()) {
      throw new NoSuchElementException();
    }
    return rounds.get(round - 1);
  }

  int line(int relation, int one, int other) {
    String fact = named(relation, one, other);
    Made made = derive(state).facts.get(fact);
    if (made == null) {
      throw new NoSuchElementException();
    }
    line = made.rule < 0 ? fact + "." : fact + "<" + made.rule + ":" + String.join(",", made.needs);
    return line.length();
  }

  int ruleLine(int rule) {
    line = ruleAt(rule);
    return line.length();
  }

  char character(int index) {
    if (index < 0 || index >= line.length()) {
      throw new IndexOutOfBoundsException();
    }
    return line.charAt(index);
  }

  int append(char c) {
    if (input.length() == 60) {
      throw new IllegalStateException();
    }
    input += c;
    return input.length();
  }

  /** The least offset behind which no text goes on with what has been read. */
  static int errorIn(String text) {
    if (TEXT.matcher(text).matches()) {
      return -1;
    }
    for (int at = 0; at < text.length(); at++) {
      Matcher matcher = TEXT.matcher(text.substring(0, at + 1));
      if (!matcher.matches() && !matcher.hitEnd()) {
        return at;
      }
    }
    return text.length();
  }

  int run() {
    String text = input;
    input = "";
    error = errorIn(text);
    must(error < 0);
    State before = state.copy();
    String[] orders = text.split(";");
    try {
      for (String order : orders) {
        carryOut(order);
      }
    } catch (RuntimeException e) {
      state = before;
      if (e instanceof UnsupportedOperationException) {
        throw e;
      }
      throw new IllegalArgumentException();
    }
    changed(before);
    return orders.length;
  }

  private void carryOut(String order) {
    String what = order.substring(1);
    switch (order.charAt(0)) {
      case '+': doTell(what); break;
      case '-': doUntell(what); break;
      case 'r': doRule(what); break;
      default:
        ruleAt(Integer.parseInt(what));
        state.rules.remove(Integer.parseInt(what));
    }
  }

  int errorPosition() {
    return error;
  }

  int refusal(boolean isDetail) {
    if (reason == 0) {
      throw new NoSuchElementException();
    }
    return isDetail ? detail : reason;
  }

  int account(int what) {
    Derived derived = derive(state);
    int number = 0;
    switch (what) {
      case 0: return derived.facts.size();
      case 1: return state.told.size();
      case 2: return state.rules.size();
      case 3:
        for (List<Integer> rounds : derived.rounds) {
          number += rounds.size();
        }
        return number;
      case 4:
      case 5:
      case 6:
        for (String fact : derived.facts.keySet()) {
          int its = what == 4 ? derived.facts.get(fact).stage
              : what == 5 ? depth(derived, fact) : size(derived, fact);
          number = Math.max(number, its);
        }
        return number;
      case 7:
        for (String rule : state.rules) {
          for (String condition : conditions(rule)) {
            number += isNegated(condition) ? 1 : 0;
          }
        }
        return number;
      case 8: return input.length();
      case 9: return past.size();
      default: throw new IllegalArgumentException();
    }
  }

  double meanDepth() {
    Derived derived = derive(state);
    if (derived.facts.isEmpty()) {
      throw new ArithmeticException();
    }
    double sum = 0;
    for (String fact : derived.facts.keySet()) {
      sum += depth(derived, fact);
    }
    return sum / derived.facts.size();
  }

  float toldShare() {
    int facts = hold().size();
    if (facts == 0) {
      throw new ArithmeticException();
    }
    return (float) state.told.size() / (float) facts;
  }

  int undo() {
    if (past.isEmpty()) {
      throw new IllegalStateException();
    }
    state = past.remove(past.size() - 1);
    return past.size();
  }

  int save() {
    saved = state.copy();
    return state.told.size();
  }

  int restore() {
    if (saved == null) {
      throw new IllegalStateException();
    }
    state = saved.copy();
    past.clear();
    return state.told.size();
  }
}
