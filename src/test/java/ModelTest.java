import java.util.ArrayDeque;
import java.util.ArrayList;
import java.util.Collections;
import java.util.Deque;
import java.util.HashSet;
import java.util.LinkedHashMap;
import java.util.List;
import java.util.Map;
import java.util.Random;
import java.util.Set;
import java.util.TreeSet;
import java.util.regex.Matcher;
import java.util.regex.Pattern;

/**
 * Long runs of calls by chance (always the same chance), each answer compared with that of a second
 * program, written from the document with maps, lists and patterns, and sharing no code with the first.
 */
public final class ModelTest {
  private static final int OBJECTS = 1500;
  private static final int CALLS = 512;
  private static final String[] NAMES = {
    "write", "erase", "fault", "net", "node", "entry", "round", "cycle", "die", "link", "undo", "keep", "back",
    "forgotten", "next", "spread", "far", "ring", "add", "step", "take", "count", "sum", "drop", "told"};
  private static final int TOLD = NAMES.length - 1;
  private static final int[] ARGUMENTS = {1, 0, 0, 0, 2, 3, 1, 1, 2, 2, 0, 1, 1, 1, 1, 1, 2, 1, 2, 2, 1, 2, 1, 1, 1};
  private static final int[] WEIGHTS = {1, 1, 2, 2, 8, 8, 14, 5, 7, 8, 6, 2, 2, 5, 4, 4, 5, 2, 9, 4, 3, 1, 2, 1, 8};

  private static final int[] EDGES = {
    Integer.MIN_VALUE, -1000, -999, -2, -1, 0, 1, 2, 3, 4, 5, 6, 7, 8, 9, 10, 11, 12, 19, 20, 21, 59, 60, 61, 98, 99, 100,
    199, 200, 255, 256, 998, 999, 1000, Integer.MAX_VALUE};
  private static final int[] NO_ARGUMENT = {0};

  private static int wrong = 0;
  private static final Map<String, Integer> seen = new LinkedHashMap<>();

  public static void main(String[] args) {
    for (int o = 0; o < OBJECTS && wrong < 10; o++) {
      run(o, new Random(7919L * o + 1));
    }
    mustHaveSeen();
    for (String text : new String[] {"sly 1", "net 8 5 3 7;dead 2;sly 3;cut 0 1;cut 5 6", "net 2 1 1 1;dead 0;dead 1"}) {
      for (int call = 0; call < NAMES.length; call++) {
        edges(text, call);
      }
    }
    System.out.println(wrong == 0 ? "all answers are as the model's" : wrong + " answers are not as the model's");
    if (wrong != 0) {
      System.exit(1);
    }
  }

  private static void run(int object, Random chance) {
    ShuffledViews x = new ShuffledViews();
    Model m = new Model();
    int calls = 0;
    while (calls < CALLS && wrong < 10) {
      if (calls < CALLS - 230 && chance.nextInt(calls == 0 ? 2 : 120) == 0) {
        String text = Texts.some(chance, m.n);
        for (int k = 0; k < text.length(); k++, calls++) {
          compare(object, x, m, 0, text.charAt(k), 0, 0);
        }
        compare(object, x, m, 2, 0, 0, 0);
        compare(object, x, m, chance.nextInt(8) == 0 ? 1 : 3, 0, 0, 0);
        calls += 2;
      } else {
        int call = someCall(chance);
        compare(object, x, m, call, argument(chance, call, 0), argument(chance, call, 1), argument(chance, call, 2));
        calls++;
      }
    }
  }

  /** A call with every edge that any call has, in each of its places, each time on new objects. */
  private static void edges(String text, int call) {
    for (int a : ARGUMENTS[call] > 0 ? EDGES : NO_ARGUMENT) {
      for (int b : ARGUMENTS[call] > 1 ? EDGES : NO_ARGUMENT) {
        ShuffledViews x = new ShuffledViews();
        Model m = new Model();
        if (wrong >= 10) {
          return;
        }
        prepare(x, m, text);
        for (int c : ARGUMENTS[call] > 2 ? EDGES : NO_ARGUMENT) {
          compare(OBJECTS, x, m, call, a, b, c);
        }
        for (int what = 0; what < 12; what++) {
          compare(OBJECTS, x, m, TOLD, what, 0, 0);
        }
      }
    }
  }

  /** A net, something to undo, one net kept, a full ring, an empty one, a text. */
  private static void prepare(ShuffledViews x, Model m, String text) {
    for (int k = 0; k < text.length(); k++) {
      x.write(text.charAt(k));
      m.write(text.charAt(k));
    }
    due(x.net(), m.net());
    due(x.cycle(2), m.cycle(2));
    due(x.keep(1), m.keep(1));
    due(x.round(0), m.round(0));
    due(x.ring(0), m.ring(0));
    due(x.ring(1), m.ring(1));
    for (int v = 1; v <= 8; v++) {
      due(x.add(0, v), m.add(0, v));
    }
    due(x.write('s'), m.write('s'));
  }

  private static void due(int got, int want) {
    if (got != want) {
      wrong++;
      System.out.println("ahead of an edge: answered " + got + ", due is " + want);
    }
  }

  private static int someCall(Random chance) {
    int all = 0;
    for (int w : WEIGHTS) {
      all += w;
    }
    int at = chance.nextInt(all);
    int call = 0;
    while (at >= WEIGHTS[call]) {
      at -= WEIGHTS[call];
      call++;
    }
    return call;
  }

  private static int argument(Random chance, int call, int place) {
    int wild = chance.nextInt(60);
    if (wild == 0) {
      return new int[] {Integer.MIN_VALUE, Integer.MAX_VALUE, -1, -2, 256, 1000, -1000, 100}[chance.nextInt(8)];
    }
    switch (NAMES[call]) {
      case "write": return chance.nextInt(258) - 1;
      case "cycle": return chance.nextInt(10) == 0 ? chance.nextInt(23) - 1 : 1 + chance.nextInt(3);
      case "spread": return chance.nextInt(64) - 1;
      case "die": return place == 0 ? chance.nextInt(9) : chance.nextInt(20) == 0 ? 2 : chance.nextInt(2);
      case "node": return place == 0 ? chance.nextInt(9) : chance.nextInt(7) - 1;
      case "entry": return place == 0 ? chance.nextInt(9) : place == 1 ? chance.nextInt(7) - 1 : chance.nextInt(3);
      case "keep": case "back": return chance.nextInt(4) - 1;
      case "ring": case "sum": case "drop": case "take": return chance.nextInt(4);
      case "add": return place == 0 ? chance.nextInt(4) : chance.nextInt(2001) - 1000;
      case "step": return place == 0 ? chance.nextInt(4) : chance.nextInt(102) - 1;
      case "count": return place == 0 ? chance.nextInt(4) : chance.nextInt(11);
      case "told": return chance.nextInt(14) - 1;
      default: return chance.nextInt(9);
    }
  }

  private static void compare(int object, ShuffledViews x, Model m, int call, int a, int b, int c) {
    int got = ofClass(x, call, a, b, c);
    int due = ofModel(m, call, a, b, c);
    String kind = NAMES[call] + (due < 0 ? " " + due : "");
    seen.merge(kind, 1, Integer::sum);
    if (got != due) {
      wrong++;
      String[] told = {String.valueOf(a), String.valueOf(b), String.valueOf(c)};
      String arguments = String.join(", ", List.of(told).subList(0, ARGUMENTS[call]));
      System.out.println("object " + object + ": " + NAMES[call] + "(" + arguments + ") answered " + got + ", due is " + due);
    }
  }

  /** Chance that never comes to a kind of answer tests nothing of it. */
  private static void mustHaveSeen() {
    String[] kinds = {
      "write", "write -3", "write -5", "erase", "fault", "fault -1", "net", "net -4", "node", "node -2", "node -3",
      "entry", "entry -1", "entry -2", "entry -3", "round", "round -1", "round -2", "round -4", "cycle", "cycle -3",
      "die", "die -2", "die -3", "die -4", "link", "link -2", "link -4", "link -5", "undo", "undo -4", "keep",
      "keep -2", "back", "back -2", "back -4", "forgotten", "forgotten -1", "forgotten -2", "forgotten -4", "next",
      "next -1", "next -2", "next -4", "spread", "spread -3", "spread -4", "far", "far -1", "far -2", "far -4",
      "ring", "ring -2", "add", "add -2", "add -3", "add -11", "add -13", "step", "step -2", "step -3", "step -11",
      "step -12", "take", "take -2", "take -11", "take -12", "count", "count -2", "count -3", "count -11", "count -12",
      "sum", "sum -2", "sum -11", "drop", "drop -2", "drop -11", "told", "told -1", "told -3"};
    for (String kind : kinds) {
      if (!seen.containsKey(kind)) {
        wrong++;
        System.out.println("no run came to an answer like: " + kind);
      }
    }
  }

  private static int ofClass(ShuffledViews x, int call, int a, int b, int c) {
    switch (NAMES[call]) {
      case "write": return x.write(a);
      case "erase": return x.erase();
      case "fault": return x.fault();
      case "net": return x.net();
      case "node": return x.node(a, b);
      case "entry": return x.entry(a, b, c);
      case "round": return x.round(a);
      case "cycle": return x.cycle(a);
      case "die": return x.die(a, b);
      case "link": return x.link(a, b);
      case "undo": return x.undo();
      case "keep": return x.keep(a);
      case "back": return x.back(a);
      case "forgotten": return x.forgotten(a);
      case "next": return x.next(a);
      case "spread": return x.spread(a);
      case "far": return x.far(a, b);
      case "ring": return x.ring(a);
      case "add": return x.add(a, b);
      case "step": return x.step(a, b);
      case "take": return x.take(a);
      case "count": return x.count(a, b);
      case "sum": return x.sum(a);
      case "drop": return x.drop(a);
      default: return x.told(a);
    }
  }

  private static int ofModel(Model m, int call, int a, int b, int c) {
    switch (NAMES[call]) {
      case "write": return m.write(a);
      case "erase": return m.erase();
      case "fault": return m.fault();
      case "net": return m.net();
      case "node": return m.node(a, b);
      case "entry": return m.entry(a, b, c);
      case "round": return m.round(a);
      case "cycle": return m.cycle(a);
      case "die": return m.die(a, b);
      case "link": return m.link(a, b);
      case "undo": return m.undo();
      case "keep": return m.keep(a);
      case "back": return m.back(a);
      case "forgotten": return m.forgotten(a);
      case "next": return m.next(a);
      case "spread": return m.spread(a);
      case "far": return m.far(a, b);
      case "ring": return m.ring(a);
      case "add": return m.add(a, b);
      case "step": return m.step(a, b);
      case "take": return m.take(a);
      case "count": return m.count(a, b);
      case "sum": return m.sum(a);
      case "drop": return m.drop(a);
      default: return m.told(a);
    }
  }

  /** Texts by chance: most say something, some have a fault. */
  private static final class Texts {
    static String some(Random chance, int n) {
      int[] nodes = {n};
      StringBuilder text = new StringBuilder(blanks(chance));
      int clauses = chance.nextInt(12) == 0 ? 30 : 1 + chance.nextInt(9);
      for (int c = 0; c < clauses; c++) {
        String clause = clause(chance, nodes, clauses > 20);
        if (text.length() + clause.length() > 205) {
          break;
        }
        text.append(c == 0 ? "" : ";").append(clause);
      }
      if (chance.nextInt(6) == 0) {
        spoil(chance, text);
      }
      return text.toString();
    }

    private static String clause(Random chance, int[] nodes, boolean isShort) {
      int i = chance.nextInt(nodes[0] + (chance.nextInt(25) == 0 ? 1 : 0));
      int j = chance.nextInt(25) == 0 ? i : (i + 1 + chance.nextInt(Math.max(1, nodes[0] - 1))) % nodes[0];
      int kind = isShort ? 4 + chance.nextInt(2) : chance.nextInt(12);
      if (kind == 0) {
        nodes[0] = 2 + chance.nextInt(7);
        int c = 1 + chance.nextInt(5);
        int l = 1 + chance.nextInt(c);
        return words(chance, isShort, "net", nodes[0], c, l, 1 + chance.nextInt(999));
      }
      if (kind == 4) {
        return words(chance, isShort, "dead", i);
      }
      if (kind == 5 || kind == 6) {
        return words(chance, isShort, "sly", i);
      }
      if (kind <= 8) {
        return words(chance, isShort, "cut", i, j);
      }
      return words(chance, isShort, "link", i, j, chance.nextBoolean() ? 96 + chance.nextInt(4) : chance.nextInt(101));
    }

    private static String words(Random chance, boolean isShort, String word, int... numbers) {
      StringBuilder text = new StringBuilder(word);
      for (int k = 0; k < numbers.length; k++) {
        text.append(k == 0 && chance.nextInt(8) == 0 ? "" : " ").append(isShort ? "" : blanks(chance));
        text.append(chance.nextInt(20) == 0 ? "0" : "").append(numbers[k]);
      }
      return text.append(isShort ? "" : blanks(chance)).toString();
    }

    private static String blanks(Random chance) {
      return chance.nextInt(15) == 0 ? " ".repeat(1 + chance.nextInt(3)) : "";
    }

    private static void spoil(Random chance, StringBuilder text) {
      int at = chance.nextInt(text.length() + 1);
      String signs = ";; 0123456789netdlsyikcuaN,." + (char) 9 + (char) 200 + (char) 0;
      char sign = signs.charAt(chance.nextInt(signs.length()));
      if (at < text.length() && chance.nextBoolean()) {
        text.setCharAt(at, sign);
      } else if (at < text.length() && chance.nextBoolean()) {
        text.setLength(at);
      } else {
        text.insert(at, sign);
      }
    }
  }

  /** What undo and back bring again. */
  private static final class State {
    int draws;
    Set<Integer> alive = new TreeSet<>();
    Set<Integer> sly = new TreeSet<>();
    List<Entries> views = new ArrayList<>();

    State copy() {
      State s = new State();
      s.draws = draws;
      s.alive.addAll(alive);
      s.sly.addAll(sly);
      for (Entries v : views) {
        Entries w = new Entries();
        for (int[] e : v) {
          w.add(e.clone());
        }
        s.views.add(w);
      }
      return s;
    }
  }

  /** Entries as pairs of node and age. */
  private static final class Entries extends ArrayList<int[]> {
    private static final long serialVersionUID = 1;

    int[] of(int node) {
      for (int[] e : this) {
        if (e[0] == node) {
          return e;
        }
      }
      return null;
    }
  }

  private static final class Model {
    private static final Pattern TOKEN = Pattern.compile("[a-z]+|[0-9]+|[^ ]", Pattern.DOTALL);
    int n;
    int c;
    int slice;
    private State s;
    private String text = "";
    private final Deque<State> past = new ArrayDeque<>();
    private final State[] kept = new State[2];
    private final List<List<Integer>> rings = new ArrayList<>(Collections.nCopies(3, null));

    Model() {
      begin(4, 2, 1, 1);
    }

    private void begin(int nodes, int entries, int most, int seed) {
      n = nodes;
      c = entries;
      slice = most;
      s = new State();
      s.draws = seed;
      for (int i = 0; i < n; i++) {
        s.alive.add(i);
        Entries v = new Entries();
        int j = i;
        while (v.size() < Math.min(c, n - 1)) {
          j = j + 1 == n ? 0 : j + 1;
          v.add(new int[] {j, 0});
        }
        s.views.add(v);
      }
    }

    private boolean no(int node) {
      return node < 0 || node >= n;
    }

    int write(int letter) {
      if (letter < 0 || letter > 255) return -3;
      if (text.length() == 200) return -5;
      text += (char) letter;
      return text.length();
    }

    int erase() {
      int had = text.length();
      text = "";
      return had;
    }

    int fault() {
      return parse(new ArrayList<>());
    }

    /** Tokens are told off a list, with the end as a last token that is empty. */
    private int parse(List<List<String>> done) {
      List<String> tokens = new ArrayList<>();
      List<Integer> places = new ArrayList<>();
      Matcher matcher = TOKEN.matcher(text);
      while (matcher.find()) {
        tokens.add(matcher.group());
        places.add(matcher.start());
      }
      tokens.add("");
      places.add(text.length());
      int nodes = n;
      int t = 0;
      while (true) {
        List<String> clause = new ArrayList<>();
        String word = tokens.get(t);
        Map<String, Integer> wants = Map.of("net", 4, "dead", 1, "sly", 1, "link", 3, "cut", 2);
        if (!wants.containsKey(word)) return places.get(t);
        clause.add(word);
        for (int k = 1; k <= wants.get(word); k++) {
          t++;
          if (!tokens.get(t).matches("[0-9]{1,3}")) return places.get(t);
          int v = Integer.parseInt(tokens.get(t));
          int least = word.equals("net") ? (k == 1 ? 2 : 1) : 0;
          int most = nodes - 1;
          if (word.equals("net")) {
            most = k == 1 ? 8 : k == 2 ? 5 : k == 3 ? Integer.parseInt(clause.get(2)) : 999;
          } else if (k == 3) {
            most = 99;
          } else if (k == 2 && v == Integer.parseInt(clause.get(1))) {
            return places.get(t);
          }
          if (v < least || v > most) return places.get(t);
          clause.add(tokens.get(t));
        }
        if (word.equals("net")) nodes = Integer.parseInt(clause.get(1));
        done.add(clause);
        t++;
        if (tokens.get(t).isEmpty()) return -1;
        if (!tokens.get(t).equals(";") || done.size() == 24) return places.get(t);
        t++;
      }
    }

    int net() {
      List<List<String>> clauses = new ArrayList<>();
      if (parse(clauses) != -1) return -4;
      for (List<String> clause : clauses) {
        List<Integer> v = new ArrayList<>();
        for (String number : clause.subList(1, clause.size())) {
          v.add(Integer.parseInt(number));
        }
        obey(clause.get(0), v);
      }
      text = "";
      past.clear();
      kept[0] = null;
      kept[1] = null;
      Collections.fill(rings, null);
      return clauses.size();
    }

    private void obey(String word, List<Integer> v) {
      switch (word) {
        case "net": begin(v.get(0), v.get(1), v.get(2), v.get(3)); break;
        case "dead": s.alive.remove(v.get(0)); break;
        case "sly": s.sly.add(v.get(0)); break;
        case "cut": s.views.get(v.get(0)).removeIf(e -> e[0] == v.get(1)); break;
        default:
          Entries view = s.views.get(v.get(0));
          int[] entry = {v.get(1), v.get(2)};
          if (view.of(v.get(1)) != null) {
            view.of(v.get(1))[1] = v.get(2);
          } else if (view.size() < c) {
            view.add(entry);
          } else {
            view.set(view.size() - 1, entry);
          }
      }
    }

    private int known(State t, int node) {
      int known = 0;
      for (int i : t.alive) {
        if (t.views.get(i).of(node) != null) known++;
      }
      return known;
    }

    int node(int node, int what) {
      if (no(node)) return -2;
      Entries view = s.views.get(node);
      int bits = 0;
      for (int[] e : view) {
        bits += 1 << e[0];
      }
      if (what < 0 || what > 4) return -3;
      return new int[] {s.alive.contains(node) ? 1 : 0, s.sly.contains(node) ? 1 : 0, view.size(), known(s, node), bits}[what];
    }

    int entry(int node, int k, int what) {
      if (no(node)) return -2;
      if (what < 0 || what > 1 || k < 0) return -3;
      Entries view = s.views.get(node);
      return k < view.size() ? view.get(k)[what] : -1;
    }

    private int draw(State t, int m) {
      t.draws = (int) ((t.draws * 75L + 74L) % 65537L);
      return t.draws / 2 % m;
    }

    private int doRound(State t, int i) {
      Entries mine = t.views.get(i);
      for (int[] e : mine) {
        if (e[1] < 99) e[1]++;
      }
      if (mine.isEmpty()) return -1;
      int[] first = Collections.max(mine, (a, b) -> a[1] != b[1] ? a[1] - b[1] : b[0] - a[0]);
      mine.remove(first);
      int q = first[0];
      if (!t.alive.contains(q)) return q;
      Entries his = t.views.get(q);
      List<int[]> out = new ArrayList<>();
      out.add(new int[] {i, 0});
      if (!t.sly.contains(i)) pick(t, mine, out);
      List<int[]> in = new ArrayList<>();
      if (t.sly.contains(q)) {
        in.add(new int[] {q, 0});
      } else {
        pick(t, his, in);
      }
      takeIn(his, q, out, in);
      takeIn(mine, i, in, out);
      return q;
    }

    private void pick(State t, Entries view, List<int[]> out) {
      List<int[]> unsent = new ArrayList<>(view);
      while (out.size() < slice && !unsent.isEmpty()) {
        out.add(unsent.remove(draw(t, unsent.size())).clone());
      }
    }

    private void takeIn(Entries view, int self, List<int[]> heard, List<int[]> sent) {
      Set<Integer> replaced = new HashSet<>();
      for (int[] e : heard) {
        if (e[0] == self || view.of(e[0]) != null) continue;
        if (view.size() < c) {
          view.add(e.clone());
          continue;
        }
        for (int[] mine : sent) {
          if (mine[0] != self && view.of(mine[0]) != null && !replaced.contains(mine[0])) {
            replaced.add(mine[0]);
            view.set(view.indexOf(view.of(mine[0])), e.clone());
            break;
          }
        }
      }
    }

    private void doCycle(State t) {
      for (int i = 0; i < n; i++) {
        if (t.alive.contains(i)) doRound(t, i);
      }
    }

    private int entries() {
      return s.views.stream().mapToInt(List::size).sum();
    }

    private void remember() {
      past.push(s.copy());
      if (past.size() > 8) past.removeLast();
    }

    int round(int node) {
      if (no(node)) return -2;
      if (!s.alive.contains(node)) return -4;
      remember();
      return doRound(s, node);
    }

    int cycle(int times) {
      if (times < 1 || times > 20) return -3;
      remember();
      for (int k = 0; k < times; k++) {
        doCycle(s);
      }
      return entries();
    }

    int die(int node, int is) {
      if (no(node)) return -2;
      if (is != 0 && is != 1) return -3;
      if (s.alive.contains(node) == (is == 0)) return -4;
      remember();
      if (is == 1) s.alive.remove(node); else s.alive.add(node);
      return s.alive.size();
    }

    int link(int i, int j) {
      if (no(i) || no(j) || i == j) return -2;
      if (s.views.get(i).of(j) != null) return -4;
      if (s.views.get(i).size() == c) return -5;
      remember();
      s.views.get(i).add(new int[] {j, 0});
      return s.views.get(i).size();
    }

    int undo() {
      if (past.isEmpty()) return -4;
      s = past.pop();
      return past.size();
    }

    int keep(int k) {
      if (k != 0 && k != 1) return -2;
      kept[k] = s.copy();
      return entries();
    }

    int back(int k) {
      if (k != 0 && k != 1) return -2;
      if (kept[k] == null) return -4;
      s = kept[k].copy();
      past.clear();
      return entries();
    }

    int forgotten(int node) {
      if (no(node)) return -2;
      if (s.alive.contains(node)) return -4;
      State t = s.copy();
      for (int k = 0; k <= 60; k++) {
        if (known(t, node) == 0) return k;
        doCycle(t);
      }
      return -1;
    }

    int next(int node) {
      if (no(node)) return -2;
      if (!s.alive.contains(node)) return -4;
      int best = -1;
      int age = -1;
      for (int[] e : s.views.get(node)) {
        int older = Math.min(99, e[1] + 1);
        if (older > age || older == age && e[0] < best) {
          best = e[0];
          age = older;
        }
      }
      return best;
    }

    int spread(int times) {
      if (times < 0 || times > 60) return -3;
      if (s.alive.isEmpty()) return -4;
      State t = s.copy();
      for (int k = 0; k < times; k++) {
        doCycle(t);
      }
      List<Integer> all = new ArrayList<>();
      for (int i : t.alive) {
        all.add(known(t, i));
      }
      return Collections.max(all) - Collections.min(all);
    }

    private int[][] distances(boolean eitherWay) {
      int[][] far = new int[n][n];
      for (int i = 0; i < n; i++) {
        for (int j = 0; j < n; j++) {
          boolean live = s.alive.contains(i) && s.alive.contains(j);
          boolean way = s.views.get(i).of(j) != null || eitherWay && s.views.get(j).of(i) != null;
          far[i][j] = i == j ? 0 : live && way ? 1 : 1000;
        }
      }
      for (int k = 0; k < n; k++) {
        for (int i = 0; i < n; i++) {
          for (int j = 0; j < n; j++) {
            far[i][j] = Math.min(far[i][j], far[i][k] + far[k][j]);
          }
        }
      }
      return far;
    }

    int far(int from, int to) {
      if (no(from) || no(to) || from == to) return -2;
      if (!s.alive.contains(from) || !s.alive.contains(to)) return -4;
      int far = distances(false)[from][to];
      return far >= 1000 ? -1 : far;
    }

    private int parts() {
      int[][] far = distances(true);
      int parts = 0;
      for (int i : s.alive) {
        boolean first = true;
        for (int j = 0; j < i; j++) {
          first &= far[i][j] >= 1000;
        }
        parts += first ? 1 : 0;
      }
      return parts;
    }

    /** The hand is always at the front of the list. */
    private int refuse(int ring, boolean needsOne) {
      if (rings.get(ring) == null) return -11;
      return needsOne && rings.get(ring).isEmpty() ? -12 : 0;
    }

    int ring(int ring) {
      if (ring < 0 || ring > 2) return -2;
      rings.set(ring, new ArrayList<>());
      return 0;
    }

    int add(int ring, int v) {
      if (ring < 0 || ring > 2) return -2;
      if (v < -999 || v > 999) return -3;
      if (refuse(ring, false) != 0) return refuse(ring, false);
      List<Integer> r = rings.get(ring);
      if (r.size() == 8) return -13;
      r.add(Math.min(1, r.size()), v);
      return r.size();
    }

    int step(int ring, int times) {
      if (ring < 0 || ring > 2) return -2;
      if (times < 0 || times > 99) return -3;
      if (refuse(ring, true) != 0) return refuse(ring, true);
      Collections.rotate(rings.get(ring), -times);
      return rings.get(ring).get(0) + 5000;
    }

    int take(int ring) {
      if (ring < 0 || ring > 2) return -2;
      if (refuse(ring, true) != 0) return refuse(ring, true);
      return rings.get(ring).remove(0) + 5000;
    }

    int count(int ring, int m) {
      if (ring < 0 || ring > 2) return -2;
      if (m < 1 || m > 9) return -3;
      if (refuse(ring, true) != 0) return refuse(ring, true);
      while (rings.get(ring).size() > 1) {
        Collections.rotate(rings.get(ring), -m);
        rings.get(ring).remove(0);
      }
      return rings.get(ring).get(0) + 5000;
    }

    int sum(int ring) {
      if (ring < 0 || ring > 2) return -2;
      if (refuse(ring, false) != 0) return refuse(ring, false);
      return 50000 + rings.get(ring).stream().mapToInt(v -> v).sum();
    }

    int drop(int ring) {
      if (ring < 0 || ring > 2) return -2;
      if (refuse(ring, false) != 0) return refuse(ring, false);
      return rings.set(ring, null).size();
    }

    int told(int what) {
      switch (what) {
        case 0: return n;
        case 1: return c;
        case 2: return slice;
        case 3: return s.alive.stream().mapToInt(i -> 1 << i).sum();
        case 4: return entries();
        case 5: return s.alive.stream().mapToInt(i -> known(s, i)).max().orElse(-1);
        case 6: return s.alive.stream().mapToInt(i -> known(s, i)).min().orElse(-1);
        case 7: return parts();
        case 8: return s.draws;
        case 9: return rings.stream().mapToInt(r -> r == null ? 0 : r.size()).sum();
        case 10: return past.size();
        case 11: return text.length();
        default: return -3;
      }
    }
  }
}
