import java.util.ArrayDeque;
import java.util.ArrayList;
import java.util.Comparator;
import java.util.Deque;
import java.util.List;
import java.util.Map;
import java.util.TreeMap;
import java.util.TreeSet;
import java.util.regex.Matcher;
import java.util.regex.Pattern;

/**
 * Long runs of calls on FloorTops and on a second program, which is written from the document
 * with maps and lists; the runs are the same each time.
 */
public final class FloorTopsModel {
  private static final int UNKNOWN = -1;
  private static final int BAD = -2;
  private static final int FULL = -3;
  private static final int NONE = -5;
  private static final int CALLS = 512;
  private static final int RUNS = 3000;
  private static final int TEXT = 60;
  /** The calls of askAll(). */
  private static final int ALL_ASKED = 5 * (7 + 5 + 6 * 5) + 9 * 5;

  /** A counter of the second program. */
  private record Counter(char letter, int count, int slack, int time) {
  }

  private record Event(int kind, int place, int value, int time) {
  }

  private static final class Sketch {
    int size = 4;
    int floor = 0;
    int arrivals = 0;
    Map<Character, Counter> counters = new TreeMap<>();
    Map<Character, Integer> came = new TreeMap<>();

    Sketch twin() {
      Sketch twin = new Sketch();
      twin.size = size;
      twin.floor = floor;
      twin.arrivals = arrivals;
      twin.counters.putAll(counters);
      twin.came.putAll(came);
      return twin;
    }

    int sum() {
      return came.values().stream().mapToInt(Integer::intValue).sum();
    }

    int upper(char c) {
      return counters.containsKey(c) ? counters.get(c).count() : floor;
    }

    int lower(char c) {
      return counters.containsKey(c) ? counters.get(c).count() - counters.get(c).slack() : 0;
    }

    int slack(char c) {
      return counters.containsKey(c) ? counters.get(c).slack() : floor;
    }

    Counter victim() {
      return counters.values().stream().min(Comparator.comparingInt(Counter::count)
          .thenComparingInt(Counter::time).thenComparingInt(Counter::letter)).orElse(null);
    }

    void drop(Counter counter) {
      counters.remove(counter.letter());
      if (counter.count() > floor) {
        floor = counter.count();
      }
    }

    static Sketch merged(Sketch a, Sketch b, int time, int[] left) {
      Sketch m = new Sketch();
      m.size = a.size;
      m.floor = a.floor + b.floor;
      TreeSet<Character> letters = new TreeSet<>(a.counters.keySet());
      letters.addAll(b.counters.keySet());
      for (char c : letters) {
        m.counters.put(c, new Counter(c, a.upper(c) + b.upper(c), a.slack(c) + b.slack(c), time));
      }
      a.came.forEach((c, n) -> m.came.merge(c, n, Integer::sum));
      b.came.forEach((c, n) -> m.came.merge(c, n, Integer::sum));
      while (m.counters.size() > m.size) {
        m.drop(m.counters.values().stream().min(Comparator.comparingInt(Counter::count)
            .thenComparing(Comparator.comparingInt(Counter::letter).reversed())).get());
        left[0]++;
      }
      return m;
    }
  }

  private static final class World {
    List<Sketch> sketches = new ArrayList<>();
    List<Sketch> blocks = new ArrayList<>();
    List<Event> events = new ArrayList<>();
    int time = 0;
    int evictions = 0;
    int merges = 0;

    World twin() {
      World twin = new World();
      sketches.forEach(s -> twin.sketches.add(s.twin()));
      blocks.forEach(s -> twin.blocks.add(s.twin()));
      twin.events.addAll(events);
      twin.time = time;
      twin.evictions = evictions;
      twin.merges = merges;
      return twin;
    }

    void evict(int place, Sketch s) {
      Counter victim = s.victim();
      s.drop(victim);
      evictions++;
      events.add(new Event(0, place, victim.letter(), time));
    }

    void bring(int place, Sketch s, char c, int weight) {
      time++;
      s.arrivals++;
      s.came.merge(c, weight, Integer::sum);
      if (s.counters.containsKey(c)) {
        Counter old = s.counters.get(c);
        s.counters.put(c, new Counter(c, old.count() + weight, old.slack(), time));
        return;
      }
      if (s.counters.size() == s.size) {
        evict(place, s);
      }
      s.counters.put(c, new Counter(c, s.floor + weight, s.floor, time));
    }

    void bringToWindow(char c, int weight) {
      if (blocks.get(blocks.size() - 1).arrivals == 8) {
        blocks.add(new Sketch());
        events.add(new Event(2, 4, blocks.size(), time));
      }
      bring(4, blocks.get(blocks.size() - 1), c, weight);
    }

    List<Sketch> kept() {
      return blocks.subList(Math.max(0, blocks.size() - 4), blocks.size());
    }

    Sketch told(int s) {
      if (s != 4) {
        return sketches.get(s);
      }
      Sketch whole = null;
      for (Sketch block : kept()) {
        whole = whole == null ? block : Sketch.merged(whole, block, time, new int[1]);
      }
      return whole;
    }
  }

  private static final Pattern ARRIVALS = Pattern.compile("[a-z]([1-9][0-9]?)?(,[a-z]([1-9][0-9]?)?)*");
  private static final Pattern COMMAND =
      Pattern.compile("(merge|copy|size) (0|[1-9][0-9]?) (0|[1-9][0-9]?)|clear (0|[1-9][0-9]?)");

  private World now = new World();
  private final Deque<World> history = new ArrayDeque<>();
  private World snapshot = null;
  private String text = "";

  private FloorTopsModel() {
    for (int i = 0; i < 4; i++) {
      now.sketches.add(new Sketch());
    }
    now.blocks.add(new Sketch());
  }

  private void remember() {
    history.addLast(now.twin());
    if (history.size() > 4) {
      history.removeFirst();
    }
  }

  private static boolean summaryOk(int s) {
    return 0 <= s && s <= 3;
  }

  private static boolean toldOk(int s) {
    return 0 <= s && s <= 4;
  }

  private static boolean letterOk(char c) {
    return "abcdefghijklmnopqrstuvwxyz".indexOf(c) >= 0;
  }

  /** The length of the longest beginning that some right text begins with, or -1 for a right text. */
  private static int fault(Pattern pattern, String text) {
    if (pattern.matcher(text).matches()) {
      return -1;
    }
    for (int i = 1; i <= text.length(); i++) {
      Matcher m = pattern.matcher(text.substring(0, i));
      if (!m.matches() && !m.hitEnd()) {
        return i - 1;
      }
    }
    return text.length();
  }

  private static int commandFault(String text) {
    String word = text.replaceAll("(?s)[^a-z].*", "");
    return List.of("merge", "copy", "size", "clear").contains(word) ? fault(COMMAND, text) : 0;
  }

  private static int weightOf(String arrival) {
    return arrival.length() == 1 ? 1 : Integer.parseInt(arrival.substring(1));
  }

  int arrive(int s, char c, int weight) {
    if (!summaryOk(s) || !letterOk(c)) {
      return UNKNOWN;
    }
    if (weight < 1 || weight > 99) {
      return BAD;
    }
    if (now.sketches.get(s).sum() + weight > 1000000) {
      return FULL;
    }
    remember();
    now.bring(s, now.sketches.get(s), c, weight);
    return now.sketches.get(s).upper(c);
  }

  int feed(int s) {
    if (!summaryOk(s)) {
      return UNKNOWN;
    }
    int fault = fault(ARRIVALS, text);
    if (fault >= 0) {
      return -100 - fault;
    }
    String[] arrivals = text.split(",");
    int total = now.sketches.get(s).sum();
    for (String arrival : arrivals) {
      total += weightOf(arrival);
    }
    if (total > 1000000) {
      return FULL;
    }
    remember();
    for (String arrival : arrivals) {
      now.bring(s, now.sketches.get(s), arrival.charAt(0), weightOf(arrival));
    }
    return arrivals.length;
  }

  int flow(char c, int weight) {
    if (!letterOk(c)) {
      return UNKNOWN;
    }
    if (weight < 1 || weight > 99) {
      return BAD;
    }
    remember();
    now.bringToWindow(c, weight);
    return count(5);
  }

  int flowAll() {
    int fault = fault(ARRIVALS, text);
    if (fault >= 0) {
      return -100 - fault;
    }
    remember();
    String[] arrivals = text.split(",");
    for (String arrival : arrivals) {
      now.bringToWindow(arrival.charAt(0), weightOf(arrival));
    }
    return arrivals.length;
  }

  int merge(int s, int other) {
    if (!summaryOk(s) || !summaryOk(other)) {
      return UNKNOWN;
    }
    if (s == other) {
      return BAD;
    }
    Sketch a = now.sketches.get(s);
    Sketch b = now.sketches.get(other);
    if (a.sum() + b.sum() > 1000000) {
      return FULL;
    }
    remember();
    int[] left = new int[1];
    Sketch empty = new Sketch();
    empty.size = b.size;
    now.sketches.set(s, Sketch.merged(a, b, now.time, left));
    now.sketches.set(other, empty);
    now.merges++;
    now.events.add(new Event(1, s, left[0], now.time));
    return left[0];
  }

  int copy(int s, int other) {
    if (!summaryOk(s) || !summaryOk(other)) {
      return UNKNOWN;
    }
    if (s == other) {
      return BAD;
    }
    remember();
    now.sketches.set(s, now.sketches.get(other).twin());
    return now.sketches.get(s).counters.size();
  }

  int setSize(int s, int size) {
    if (!summaryOk(s)) {
      return UNKNOWN;
    }
    if (size < 2 || size > 10) {
      return BAD;
    }
    Sketch target = now.sketches.get(s);
    if (target.size == size) {
      return NONE;
    }
    remember();
    target.size = size;
    int evicted = 0;
    while (target.counters.size() > size) {
      now.evict(s, target);
      evicted++;
    }
    return evicted;
  }

  int clear(int s) {
    if (!summaryOk(s)) {
      return UNKNOWN;
    }
    int sum = now.sketches.get(s).sum();
    if (sum == 0) {
      return NONE;
    }
    remember();
    Sketch empty = new Sketch();
    empty.size = now.sketches.get(s).size;
    now.sketches.set(s, empty);
    return sum;
  }

  int type(char c) {
    if (text.length() == 60) {
      return FULL;
    }
    text += c;
    return text.length();
  }

  int clearText() {
    int length = text.length();
    text = "";
    return length;
  }

  int perform() {
    int fault = commandFault(text);
    if (fault >= 0) {
      return -100 - fault;
    }
    String[] words = text.split(" ");
    int one = Integer.parseInt(words[1]);
    int two = words.length > 2 ? Integer.parseInt(words[2]) : 0;
    return switch (words[0]) {
      case "merge" -> merge(one, two);
      case "copy" -> copy(one, two);
      case "size" -> setSize(one, two);
      default -> clear(one);
    };
  }

  int undo() {
    if (history.isEmpty()) {
      return NONE;
    }
    now = history.removeLast();
    return history.size();
  }

  int keep() {
    snapshot = now.twin();
    return now.time;
  }

  int restore() {
    if (snapshot == null) {
      return NONE;
    }
    remember();
    now = snapshot.twin();
    return now.time;
  }

  private static int bitsOf(Iterable<Character> letters) {
    int bits = 0;
    for (char c : letters) {
      bits |= 1 << c - 'a';
    }
    return bits;
  }

  int summary(int s, int what) {
    if (!toldOk(s)) {
      return UNKNOWN;
    }
    Sketch told = now.told(s);
    return switch (what) {
      case 0 -> told.size;
      case 1 -> told.counters.size();
      case 2 -> told.floor;
      case 3 -> told.sum();
      case 4 -> told.counters.values().stream().mapToInt(Counter::slack).max().orElse(0);
      case 5 -> bitsOf(told.came.keySet());
      case 6 -> bitsOf(told.counters.keySet());
      default -> BAD;
    };
  }

  int bound(int s, char c, int what) {
    if (!toldOk(s) || !letterOk(c)) {
      return UNKNOWN;
    }
    Sketch told = now.told(s);
    Counter counter = told.counters.get(c);
    return switch (what) {
      case 0 -> told.upper(c);
      case 1 -> told.lower(c);
      case 2 -> told.came.getOrDefault(c, 0);
      case 3 -> counter == null ? NONE : counter.slack();
      case 4 -> counter == null ? NONE : counter.time();
      default -> BAD;
    };
  }

  int top(int s, int place, int what) {
    if (!toldOk(s)) {
      return UNKNOWN;
    }
    if (place < 0 || what < 0 || what > 1) {
      return BAD;
    }
    List<Counter> order = new ArrayList<>(now.told(s).counters.values());
    order.sort(Comparator.comparingInt(Counter::count).reversed().thenComparingInt(Counter::letter));
    if (place >= order.size()) {
      return NONE;
    }
    return what == 0 ? order.get(place).letter() : order.get(place).count();
  }

  int first(int s, int many, boolean sure) {
    if (!toldOk(s)) {
      return UNKNOWN;
    }
    if (many < 1 || many > 25) {
      return BAD;
    }
    int bits = 0;
    for (char c = 'a'; c <= 'z'; c++) {
      if (rank(s, c, sure) <= many) {
        bits |= 1 << c - 'a';
      }
    }
    return bits;
  }

  int above(int s, int percent, boolean sure) {
    if (!toldOk(s)) {
      return UNKNOWN;
    }
    if (percent < 1 || percent > 99) {
      return BAD;
    }
    Sketch told = now.told(s);
    long share = (long) percent * told.sum();
    int bits = 0;
    for (char c = 'a'; c <= 'z'; c++) {
      if ((sure ? told.lower(c) : told.upper(c)) * 100L > share) {
        bits |= 1 << c - 'a';
      }
    }
    return bits;
  }

  int rank(int s, char c, boolean greatest) {
    if (!toldOk(s) || !letterOk(c)) {
      return UNKNOWN;
    }
    Sketch told = now.told(s);
    int rank = 1;
    for (char d = 'a'; d <= 'z'; d++) {
      if (d != c && (greatest ? told.upper(d) > told.lower(c) : told.lower(d) > told.upper(c))) {
        rank++;
      }
    }
    return rank;
  }

  int alike(int s, int other) {
    if (!toldOk(s) || !toldOk(other)) {
      return UNKNOWN;
    }
    Sketch a = now.told(s);
    Sketch b = now.told(other);
    int alike = 0;
    for (char c = 'a'; c <= 'z'; c++) {
      if (Math.max(a.lower(c), b.lower(c)) <= Math.min(a.upper(c), b.upper(c))) {
        alike++;
      }
    }
    return alike;
  }

  int wouldEvict(int s, char c) {
    if (!summaryOk(s) || !letterOk(c)) {
      return UNKNOWN;
    }
    Sketch target = now.sketches.get(s);
    return target.counters.containsKey(c) || target.counters.size() < target.size ? NONE : target.victim().letter();
  }

  int block(int block, int what) {
    List<Sketch> kept = now.kept();
    if (block < 0 || block >= kept.size()) {
      return UNKNOWN;
    }
    Sketch told = kept.get(block);
    return switch (what) {
      case 0 -> told.arrivals;
      case 1 -> told.sum();
      case 2 -> told.counters.size();
      case 3 -> told.floor;
      default -> BAD;
    };
  }

  int event(int back, int what) {
    if (back < 0 || what < 0 || what > 3) {
      return BAD;
    }
    if (back >= 8 || back >= now.events.size()) {
      return NONE;
    }
    Event event = now.events.get(now.events.size() - 1 - back);
    return new int[] {event.kind(), event.place(), event.value(), event.time()}[what];
  }

  int count(int what) {
    return switch (what) {
      case 0 -> now.time;
      case 1 -> now.evictions;
      case 2 -> now.merges;
      case 3 -> now.blocks.size();
      case 4 -> now.kept().size();
      case 5 -> now.blocks.get(now.blocks.size() - 1).arrivals;
      case 6 -> history.size();
      case 7 -> text.length();
      default -> BAD;
    };
  }

  /** The same numbers each time: no test hangs on chance. */
  private static final class Dice {
    long seed;

    Dice(long seed) {
      this.seed = seed * 0x9E3779B97F4A7C15L + 1;
    }

    int below(int bound) {
      seed = seed * 6364136223846793005L + 1442695040888963407L;
      return (int) ((seed >>> 33) % bound);
    }

    boolean oneOf(int many) {
      return below(many) == 0;
    }

    int around(int from, int to) {
      if (oneOf(40)) {
        return new int[] {Integer.MIN_VALUE, Integer.MAX_VALUE, -1, to + 2, from - 2}[below(5)];
      }
      return oneOf(12) ? (oneOf(2) ? from - 1 : to + 1) : from + below(to - from + 1);
    }
  }

  private static final class Run {
    final int number;
    final Dice dice;
    final int letters;
    final int weights;
    final FloorTops x = new FloorTops();
    final FloorTopsModel model = new FloorTopsModel();
    int calls = 0;
    String wrong = null;

    Run(int number) {
      this.number = number;
      dice = new Dice(number);
      letters = new int[] {3, 6, 12, 26}[number & 3];
      weights = new int[] {2, 9, 99}[number % 3];
    }

    void same(String call, int got, int want) {
      calls++;
      if (got != want && wrong == null) {
        wrong = "run " + number + ", call " + calls + ": " + call + " answered " + got + ", due is " + want;
      }
    }

    char letter() {
      if (dice.oneOf(60)) {
        return new char[] {'`', '{', 'A', (char) 0, (char) 255, '0', (char) 0xffff}[dice.below(7)];
      }
      return (char) ('a' + dice.below(letters));
    }

    int weight() {
      return dice.around(1, weights);
    }

    String arrivals() {
      StringBuilder text = new StringBuilder();
      int many = 1 + dice.below(dice.oneOf(4) ? 30 : 8);
      for (int i = 0; i < many; i++) {
        text.append(i == 0 ? "" : ",").append((char) ('a' + dice.below(letters)));
        if (dice.oneOf(2)) {
          text.append(1 + dice.below(weights));
        }
      }
      return text.toString();
    }

    String command() {
      String[] words = {"merge", "copy", "size", "clear"};
      String word = words[dice.below(4)];
      String text = word + " " + dice.below(dice.oneOf(8) ? 100 : 4);
      return word.equals("clear") ? text : text + " " + dice.below(word.equals("size") ? 12 : 5);
    }

    /** One sign is another one, or gone, or one more. */
    String spoilt(String text) {
      String signs = "abz019 ,\u0000\u00e9A-" + (char) 400;
      String sign = String.valueOf(signs.charAt(dice.below(signs.length())));
      int at = dice.below(text.length() + 1);
      int behind = Math.min(text.length(), at + dice.below(2));
      return text.substring(0, at) + (dice.oneOf(3) ? "" : sign) + text.substring(behind);
    }

    void typeText() {
      String text = dice.oneOf(2) ? arrivals() : command();
      if (dice.oneOf(3)) {
        text = spoilt(text);
      }
      same("clearText()", x.clearText(), model.clearText());
      for (int i = 0; i < text.length() && calls < CALLS; i++) {
        char c = text.charAt(i);
        same("type(" + (int) c + ")", x.type(c), model.type(c));
      }
    }

    void act() {
      int s = dice.around(0, 3);
      int other = dice.around(0, 3);
      int size = dice.around(2, 10);
      char c = letter();
      int w = weight();
      String at = "(" + s + ", " + other + ", " + size + ", " + (int) c + ", " + w + ")";
      switch (dice.below(24)) {
        case 0, 1, 2, 3, 4, 5 -> same("arrive" + at, x.arrive(s, c, w), model.arrive(s, c, w));
        case 6, 7, 8, 9 -> same("flow" + at, x.flow(c, w), model.flow(c, w));
        case 10 -> same("feed" + at, x.feed(s), model.feed(s));
        case 11 -> same("flowAll" + at, x.flowAll(), model.flowAll());
        case 12, 13 -> same("merge" + at, x.merge(s, other), model.merge(s, other));
        case 14 -> same("copy" + at, x.copy(s, other), model.copy(s, other));
        case 15, 16 -> same("setSize" + at, x.setSize(s, size), model.setSize(s, size));
        case 17 -> same("clear" + at, x.clear(s), model.clear(s));
        case 18 -> same("perform()", x.perform(), model.perform());
        case 19 -> same("undo()", x.undo(), model.undo());
        case 20 -> same("keep()", x.keep(), model.keep());
        case 21 -> same("restore()", x.restore(), model.restore());
        default -> typeText();
      }
    }

    void ask() {
      int s = dice.around(0, 4);
      int other = dice.around(0, 4);
      int n = dice.around(1, 25);
      int percent = dice.around(1, 99);
      int what = dice.around(0, 7);
      int back = dice.around(0, 8);
      boolean sure = dice.oneOf(2);
      char c = letter();
      String at = "(" + s + ", " + other + ", " + n + ", " + percent + ", " + what + ", " + back + ", "
          + (int) c + ", " + sure + ")";
      switch (dice.below(11)) {
        case 0 -> same("summary" + at, x.summary(s, what), model.summary(s, what));
        case 1 -> same("bound" + at, x.bound(s, c, what), model.bound(s, c, what));
        case 2 -> same("top" + at, x.top(s, back, what / 3), model.top(s, back, what / 3));
        case 3 -> same("first" + at, x.first(s, n, sure), model.first(s, n, sure));
        case 4 -> same("above" + at, x.above(s, percent, sure), model.above(s, percent, sure));
        case 5 -> same("rank" + at, x.rank(s, c, sure), model.rank(s, c, sure));
        case 6 -> same("alike" + at, x.alike(s, other), model.alike(s, other));
        case 7 -> same("wouldEvict" + at, x.wouldEvict(s, c), model.wouldEvict(s, c));
        case 8 -> same("block" + at, x.block(other, what / 2), model.block(other, what / 2));
        case 9 -> same("event" + at, x.event(back, what / 2), model.event(back, what / 2));
        default -> same("count" + at, x.count(what), model.count(what));
      }
    }

    /** Most of what is told, at the end of a run. */
    void askAll() {
      for (int s = 0; s <= 4; s++) {
        for (int what = 0; what <= 6; what++) {
          same("at last summary(" + s + ", " + what + ")", x.summary(s, what), model.summary(s, what));
        }
        for (int place = 0; place <= 4; place++) {
          same("at last top(" + s + ", " + place + ", 0)", x.top(s, place, 0), model.top(s, place, 0));
        }
        for (char c = 'a'; c < 'a' + 6; c++) {
          for (int what = 0; what <= 4; what++) {
            same("at last bound(" + s + ", " + c + ", " + what + ")", x.bound(s, c, what), model.bound(s, c, what));
          }
        }
      }
      for (int i = 0; i < 9; i++) {
        for (int what = 0; what <= 3; what++) {
          same("at last event(" + i + ", " + what + ")", x.event(i, what), model.event(i, what));
        }
        same("at last count(" + i + ")", x.count(i), model.count(i));
      }
    }

    /** Sums that come near 1000000: a summary is copied and merged, again and again. */
    void grow() {
      for (int i = 0; i < 16; i++) {
        same("grow copy", x.copy(1, 0), model.copy(1, 0));
        same("grow merge", x.merge(0, 1), model.merge(0, 1));
      }
    }

    /** Every other run stops early, so that all is asked before the 512th call. */
    boolean goes() {
      int last = number % 2 == 0 ? CALLS : CALLS - ALL_ASKED - TEXT - 1;
      while (calls < last && wrong == null) {
        if (number % 5 == 0 && calls > 60 && calls < 70) {
          grow();
        }
        if (dice.oneOf(3)) {
          ask();
        } else {
          act();
        }
      }
      if (calls + ALL_ASKED <= CALLS && wrong == null) {
        askAll();
      }
      if (wrong != null) {
        System.out.println(wrong);
      }
      return wrong == null;
    }
  }

  public static void main(String[] args) {
    int wrong = 0;
    for (int number = 1; number <= RUNS && wrong < 10; number++) {
      if (!new Run(number).goes()) {
        wrong++;
      }
    }
    System.out.println(wrong == 0 ? RUNS + " runs answer as the second program" : wrong + " runs are wrong");
    if (wrong != 0) {
      System.exit(1);
    }
  }
}
