import java.util.ArrayDeque;
import java.util.ArrayList;
import java.util.Arrays;
import java.util.HashSet;
import java.util.List;
import java.util.NoSuchElementException;
import java.util.Set;
import java.util.TreeSet;
import java.util.regex.Matcher;
import java.util.regex.Pattern;

/** The document once more, by trying everything out: slow and plain, to be compared with the class. */
final class NaiveHunt {
  static final int NONE = -1;
  static final int HIDDEN = -1000000;

  private String tape = "";
  private final List<int[]> places = new ArrayList<>();
  private final List<Integer> slows = new ArrayList<>();
  private int follow;
  private int stay;
  private final List<String> worths = new ArrayList<>();
  private int holding = NONE;
  private List<int[]> orders = new ArrayList<>();
  private int[] starts = {};
  private final ArrayDeque<List<int[]>> acts = new ArrayDeque<>();
  private final List<int[]> found = new ArrayList<>();
  private List<int[]> imageOrders;
  private int[] imageStarts;

  int feed(int a, int b, int c, int d, int e) {
    StringBuilder text = new StringBuilder(tape);
    for (int number : new int[] {a, b, c, d, e}) {
      for (int i = 3; i >= 0; i--) {
        int sign = number >> 8 * i & 255;
        if (sign != 0) {
          text.append((char) sign);
        }
      }
    }
    if (text.length() > 160) {
      return NONE;
    }
    tape = text.toString();
    return tape.length();
  }

  boolean end(int n) {
    if (n < 0 || n > tape.length()) {
      return false;
    }
    tape = tape.substring(0, n);
    return true;
  }

  int fault(int sort) {
    return sort == 0 ? huntFault(tape) : sort == 1 ? WorthGrammar.fault(tape) : -2;
  }

  /** Where a pattern does not fit: the first byte that is no blank. */
  private static int stuck(String text, int at) {
    int i = at;
    while (i < text.length() && text.charAt(i) == ' ') {
      i++;
    }
    return i;
  }

  static int huntFault(String text) {
    Pattern item = Pattern.compile(" *([xysfk]) *");
    int at = 0;
    int p = 0;
    int b = 0;
    int l = 0;
    while (true) {
      int kindAt = stuck(text, at);
      char kind = kindAt < text.length() ? text.charAt(kindAt) : '.';
      if (kind == 'p' && ++p <= 6 || kind == 'b' && ++b <= 6 || kind == 'l' && ++l <= 1) {
        at = kindAt + 1;
      } else {
        return kindAt;
      }
      String letters = kind == 'p' ? "xy" : kind == 'b' ? "s" : "fk";
      while (true) {
        Matcher m = item.matcher(text).region(at, text.length());
        if (!m.lookingAt() || letters.indexOf(m.group(1).charAt(0)) < 0) {
          break;
        }
        char letter = m.group(1).charAt(0);
        letters = letters.replace(String.valueOf(letter), "");
        Matcher digits = Pattern.compile("[0-9]+").matcher(text).region(m.end(), text.length());
        if (!digits.lookingAt()) {
          return m.end();
        }
        if (digits.group().length() > 2) {
          return m.end() + 2;
        }
        int value = Integer.parseInt(digits.group());
        int most = letter == 's' ? 5 : letter == 'f' ? 9 : letter == 'k' ? 30 : 20;
        if (value > most || letter == 's' && value == 0) {
          return digits.end() - 1;
        }
        at = digits.end();
      }
      at = stuck(text, at);
      if (at == text.length()) {
        return p < 2 || b < 1 ? at : NONE;
      }
      if (text.charAt(at) != ';') {
        return at;
      }
      at++;
    }
  }

  int text(int sort) {
    if (sort < 0 || sort > 1 || fault(sort) != NONE || sort == 1 && worths.size() == 4) {
      return NONE;
    }
    String text = tape.replace(" ", "");
    tape = "";
    if (sort == 1) {
      worths.add(text);
      return worths.size() - 1;
    }
    places.clear();
    slows.clear();
    follow = 1;
    stay = 5;
    for (String clause : text.split(";")) {
      int x = item(clause, 'x', 0);
      int y = item(clause, 'y', 0);
      switch (clause.charAt(0)) {
        case 'p' -> places.add(new int[] {x, y});
        case 'b' -> slows.add(item(clause, 's', 1));
        default -> {
          follow = item(clause, 'f', 1);
          stay = item(clause, 'k', 5);
        }
      }
    }
    orders = new ArrayList<>();
    for (int b = 0; b < slows.size(); b++) {
      int[] order = new int[places.size()];
      for (int t = 0; t < order.length; t++) {
        order[t] = (t + b) % order.length;
      }
      orders.add(order);
    }
    starts = new int[slows.size()];
    acts.clear();
    found.clear();
    imageOrders = null;
    return slows.size();
  }

  private static int item(String clause, char letter, int without) {
    Matcher m = Pattern.compile(letter + "([0-9]+)").matcher(clause);
    return m.find() ? Integer.parseInt(m.group(1)) : without;
  }

  private boolean isPlace(int place) {
    return place >= 0 && place < places.size();
  }

  private boolean isBand(int band) {
    return band >= 0 && band < slows.size();
  }

  private boolean noHunt() {
    return places.isEmpty();
  }

  int place(int place, int what) {
    if (!isPlace(place) || what < 0 || what > 1) {
      throw new NoSuchElementException();
    }
    return places.get(place)[what];
  }

  private static int digits(int[] order) {
    int number = 0;
    for (int place : order) {
      number = number * 10 + place;
    }
    return number;
  }

  int band(int band, int what) {
    if (!isBand(band) || what < 0 || what > 2) {
      return NONE;
    }
    return what == 0 ? slows.get(band) : what == 1 ? digits(orders.get(band)) : starts[band];
  }

  private static List<int[]> permutations(int n) {
    List<int[]> all = new ArrayList<>();
    permute(new int[0], n, all);
    return all;
  }

  private static void permute(int[] head, int n, List<int[]> all) {
    if (head.length == n) {
      all.add(head);
      return;
    }
    for (int i = 0; i < n; i++) {
      int next = i;
      if (Arrays.stream(head).noneMatch(x -> x == next)) {
        int[] longer = Arrays.copyOf(head, head.length + 1);
        longer[head.length] = i;
        permute(longer, n, all);
      }
    }
  }

  private static List<int[]> copy(List<int[]> rows) {
    List<int[]> copies = new ArrayList<>();
    for (int[] row : rows) {
      copies.add(row.clone());
    }
    return copies;
  }

  private void act() {
    acts.addLast(copy(orders));
    if (acts.size() > 40) {
      acts.removeFirst();
    }
  }

  int order(int band, int order) {
    if (!isBand(band)) {
      return NONE;
    }
    for (int[] one : permutations(places.size())) {
      if (digits(one) == order) {
        act();
        orders.set(band, one);
        return acts.size();
      }
    }
    return NONE;
  }

  boolean start(int band, int minute) {
    if (!isBand(band) || minute < 0 || minute > 99) {
      return false;
    }
    starts[band] = minute;
    return true;
  }

  boolean worth(int worth) {
    if (worth < -1 || worth >= worths.size()) {
      return false;
    }
    holding = worth;
    return true;
  }

  int undo() {
    if (acts.isEmpty()) {
      return NONE;
    }
    orders = acts.removeLast();
    return acts.size();
  }

  int at(int band, int turn) {
    return isBand(band) && isPlace(turn) ? orders.get(band)[turn] : NONE;
  }

  private static int followed(int[] one, int[] other) {
    int times = 0;
    for (int t = 1; t < one.length; t++) {
      times += one[t] == other[t - 1] ? 1 : 0;
    }
    return times;
  }

  private static boolean meet(int[] one, int[] other) {
    for (int t = 0; t < one.length; t++) {
      if (one[t] == other[t]) {
        return true;
      }
    }
    return false;
  }

  int follows(int one, int other) {
    return isBand(one) && isBand(other) && one != other ? followed(orders.get(one), orders.get(other)) : NONE;
  }

  private boolean lawfulTogether(int[] one, int[] other) {
    return !meet(one, other) && followed(one, other) <= follow && followed(other, one) <= follow;
  }

  int lawful() {
    if (noHunt()) {
      return NONE;
    }
    for (int i = 0; i < orders.size(); i++) {
      for (int j = 0; j < i; j++) {
        if (!lawfulTogether(orders.get(i), orders.get(j))) {
          return 0;
        }
      }
    }
    return 1;
  }

  int crowd(int what) {
    for (int t = 0; t < places.size(); t++) {
      for (int p = 0; p < places.size(); p++) {
        int who = 0;
        for (int b = 0; b < orders.size(); b++) {
          who += orders.get(b)[t] == p ? 1 << b : 0;
        }
        if (Integer.bitCount(who) >= 2) {
          return what == 0 ? t : what == 1 ? p : what == 2 ? who : NONE;
        }
      }
    }
    return NONE;
  }

  int even(int n, int band, int turn) {
    if (n < 2 || n > 400 || n % 2 == 1 || band < 0 || band >= n || turn < 0 || turn >= n) {
      return NONE;
    }
    List<Integer> row = new ArrayList<>();
    row.add(0);
    for (int i = 1; row.size() < n; i++) {
      row.add(i);
      row.add(n - i);
    }
    return (band + row.get(turn)) % n;
  }

  int slips() {
    if (noHunt()) {
      return NONE;
    }
    Set<String> told = new HashSet<>();
    for (int[] order : orders) {
      for (int t = 1; t < order.length; t++) {
        told.add(order[t - 1] + ">" + order[t]);
      }
    }
    return told.size();
  }

  int well(int place, int i) {
    List<Integer> comers = new ArrayList<>();
    for (int t = 0; t < places.size(); t++) {
      for (int b = 0; b < orders.size(); b++) {
        if (orders.get(b)[t] == place) {
          comers.add(b);
        }
      }
    }
    return i >= 0 && i < comers.size() ? comers.get(i) : NONE;
  }

  int sight() {
    if (noHunt()) {
      return NONE;
    }
    int seen = 0;
    for (int i = 0; i < orders.size(); i++) {
      for (int j = 0; j < i; j++) {
        for (int t = 0; t < places.size(); t++) {
          int p = orders.get(i)[t];
          int q = orders.get(j)[t];
          boolean line = places.get(p)[0] == places.get(q)[0] || places.get(p)[1] == places.get(q)[1];
          seen += p != q && line ? 1 : 0;
        }
      }
    }
    return seen;
  }

  private int steps(int p, int q) {
    int[] one = p < 0 ? new int[2] : places.get(p);
    int[] other = q < 0 ? new int[2] : places.get(q);
    return Math.abs(one[0] - other[0]) + Math.abs(one[1] - other[1]);
  }

  /** The minutes at which a band comes by an order to each turn's place, and last to the gate. */
  private int[] minutes(int band, int[] order, int start) {
    int[] comes = new int[order.length + 1];
    int minute = start;
    for (int t = 0; t <= order.length; t++) {
      int from = t == 0 ? -1 : order[t - 1];
      int to = t == order.length ? -1 : order[t];
      minute += (t == 0 ? 0 : stay) + slows.get(band) * steps(from, to);
      comes[t] = minute;
    }
    return comes;
  }

  private int[] minutes(int band) {
    return minutes(band, orders.get(band), starts[band]);
  }

  private int pointsBy(int band, int[] order) {
    int[] comes = minutes(band, order, starts[band]);
    int points = 0;
    for (int t = 0; t < order.length; t++) {
      if (holding >= 0) {
        int far = steps(t == 0 ? -1 : order[t - 1], order[t]);
        points += new NaiveWorth(t, order[t], band, comes[t], far).worth(worths.get(holding));
      }
    }
    return points;
  }

  int points(int band) {
    return isBand(band) ? pointsBy(band, orders.get(band)) : HIDDEN;
  }

  int comes(int band, int turn) {
    return isBand(band) && isPlace(turn) ? minutes(band)[turn] : NONE;
  }

  int home(int band) {
    return isBand(band) ? minutes(band)[places.size()] : NONE;
  }

  /** The first minute that two have in common at one place, minute after minute. */
  private int clash(int[] order, int[] comes, int[] otherOrder, int[] otherComes) {
    int first = Integer.MAX_VALUE;
    for (int t = 0; t < order.length; t++) {
      for (int u = 0; u < order.length; u++) {
        if (order[t] == otherOrder[u]) {
          for (int minute = comes[t]; minute < comes[t] + stay; minute++) {
            if (minute >= otherComes[u] && minute < otherComes[u] + stay) {
              first = Math.min(first, minute);
            }
          }
        }
      }
    }
    return first;
  }

  private int clash(int one, int other, int[] begin) {
    int[] a = orders.get(one);
    int[] b = orders.get(other);
    return clash(a, minutes(one, a, begin[one]), b, minutes(other, b, begin[other]));
  }

  int clashes(int what) {
    if (noHunt() || what < 0 || what > 1) {
      return HIDDEN;
    }
    int pairs = 0;
    int first = Integer.MAX_VALUE;
    for (int i = 0; i < orders.size(); i++) {
      for (int j = 0; j < i; j++) {
        int minute = clash(i, j, starts);
        pairs += minute < Integer.MAX_VALUE ? 1 : 0;
        first = Math.min(first, minute);
      }
    }
    return what == 0 ? pairs : pairs == 0 ? NONE : first;
  }

  int starts(int most, int what) {
    if (noHunt() || most < 0 || most > 9 || what < 0 || what > 1) {
      return NONE;
    }
    if (slows.size() > 4) {
      return HIDDEN;
    }
    int bestSum = Integer.MAX_VALUE;
    int bestRow = NONE;
    rows:
    for (int row = 0; row < (int) Math.pow(10, slows.size()); row++) {
      int[] begin = new int[slows.size()];
      int rest = row;
      int sum = 0;
      for (int b = begin.length - 1; b >= 0; b--) {
        begin[b] = rest % 10;
        sum += begin[b];
        rest /= 10;
        if (begin[b] > most) {
          continue rows;
        }
      }
      if (sum >= bestSum) {
        continue;
      }
      for (int i = 0; i < begin.length; i++) {
        for (int j = 0; j < i; j++) {
          if (clash(i, j, begin) < Integer.MAX_VALUE) {
            continue rows;
          }
        }
      }
      bestSum = sum;
      bestRow = row;
    }
    return bestRow == NONE ? NONE : what == 0 ? bestSum : bestRow;
  }

  int soonest(int band, int what) {
    if (!isBand(band) || what < 0 || what > 1) {
      return NONE;
    }
    int best = Integer.MAX_VALUE;
    int bestOrder = NONE;
    next:
    for (int[] order : permutations(places.size())) {
      int[] comes = minutes(band, order, starts[band]);
      for (int other = 0; other < slows.size(); other++) {
        if (other != band && clash(order, comes, orders.get(other), minutes(other)) < Integer.MAX_VALUE) {
          continue next;
        }
      }
      if (comes[order.length] < best) {
        best = comes[order.length];
        bestOrder = digits(order);
      }
    }
    return bestOrder == NONE ? NONE : what == 0 ? bestOrder : best;
  }

  int rich(int band, int what) {
    if (!isBand(band) || what < 0 || what > 1) {
      return HIDDEN;
    }
    int best = Integer.MIN_VALUE;
    int bestOrder = NONE;
    next:
    for (int[] order : permutations(places.size())) {
      for (int other = 0; other < slows.size(); other++) {
        if (other != band && meet(order, orders.get(other))) {
          continue next;
        }
      }
      int points = pointsBy(band, order);
      if (points > best) {
        best = points;
        bestOrder = digits(order);
      }
    }
    return bestOrder == NONE ? HIDDEN : what == 0 ? bestOrder : best;
  }

  int find(int band, int turn, int place, boolean is) {
    if (!isBand(band) || !isPlace(turn) || !isPlace(place) || found.size() == 20) {
      return NONE;
    }
    found.add(new int[] {band, turn, place, is ? 1 : 0});
    return found.size();
  }

  private List<int[]> fitting(int band) {
    List<int[]> fit = new ArrayList<>();
    next:
    for (int[] order : permutations(places.size())) {
      for (int[] one : found) {
        if (one[0] == band && (order[one[1]] == one[2]) != (one[3] == 1)) {
          continue next;
        }
      }
      fit.add(order);
    }
    return fit;
  }

  int fits(int band) {
    return isBand(band) ? fitting(band).size() : NONE;
  }

  private void fill(List<List<int[]>> fit, List<int[]> rows, List<List<int[]>> all) {
    if (rows.size() == fit.size()) {
      all.add(new ArrayList<>(rows));
      return;
    }
    next:
    for (int[] order : fit.get(rows.size())) {
      for (int[] other : rows) {
        if (!lawfulTogether(order, other)) {
          continue next;
        }
      }
      rows.add(order);
      if (all.size() < 1000) {
        fill(fit, rows, all);
      }
      rows.remove(rows.size() - 1);
    }
  }

  int tables(int i, int band) {
    if (noHunt() || places.size() > 5 || slows.size() > 5) {
      return HIDDEN;
    }
    if (i < NONE || i >= 1000 || i >= 0 && !isBand(band)) {
      return NONE;
    }
    List<List<int[]>> fit = new ArrayList<>();
    for (int b = 0; b < slows.size(); b++) {
      fit.add(fitting(b));
    }
    List<List<int[]>> all = new ArrayList<>();
    fill(fit, new ArrayList<>(), all);
    return i == NONE ? all.size() : i >= all.size() ? NONE : digits(all.get(i).get(band));
  }

  int wrong(int band, int turn, int place, int what) {
    if (!isBand(band) || !isPlace(turn) || !isPlace(place) || what < 0 || what > 1) {
      return NONE;
    }
    int[] gone = orders.get(band).clone();
    if (gone[turn] == place) {
      return NONE;
    }
    gone[turn] = place;
    int meets = 0;
    int times = 0;
    for (int other = 0; other < slows.size(); other++) {
      if (other != band) {
        meets += orders.get(other)[turn] == place ? 1 << other : 0;
        times += followed(gone, orders.get(other));
      }
    }
    return what == 0 ? meets : times;
  }

  /** All rows of helpers' places (rising) from which turn after turn can be gone through. */
  int helpers(int steps) {
    if (noHunt() || steps < 0 || steps > 40) {
      return NONE;
    }
    for (int many = 1; ; many++) {
      Set<String> now = new TreeSet<>();
      everywhere("", many, 0, now);
      for (int t = 0; t < places.size(); t++) {
        Set<String> well = new TreeSet<>();
        for (String row : now) {
          if (looksAfter(row, t)) {
            well.add(row);
          }
        }
        now = new TreeSet<>();
        for (String row : well) {
          move(row, 0, "", steps, now);
        }
      }
      if (!now.isEmpty()) {
        return many;
      }
    }
  }

  private void everywhere(String row, int many, int least, Set<String> all) {
    if (row.length() == many) {
      all.add(row);
      return;
    }
    for (int p = least; p < places.size(); p++) {
      everywhere(row + p, many, p, all);
    }
  }

  private boolean looksAfter(String row, int turn) {
    for (int[] order : orders) {
      if (row.indexOf('0' + order[turn]) < 0) {
        return false;
      }
    }
    return true;
  }

  private void move(String row, int i, String moved, int steps, Set<String> all) {
    if (i == row.length()) {
      char[] signs = moved.toCharArray();
      Arrays.sort(signs);
      all.add(new String(signs));
      return;
    }
    for (int p = 0; p < places.size(); p++) {
      if (steps(row.charAt(i) - '0', p) <= steps) {
        move(row, i + 1, moved + p, steps, all);
      }
    }
  }

  int pieces(int n, int k, int what) {
    if (n < 1 || n > 10 || k < 1 || k > n || what < 0) {
      return NONE;
    }
    List<Integer> holders = new ArrayList<>();
    int firstHas = 0;
    for (int set = 0; set < 1 << n; set++) {
      if (Integer.bitCount(set) == k - 1) {
        int has = (1 << n) - 1 - set;
        holders.add(has);
        firstHas += has & 1;
      }
    }
    if (what < 2) {
      return what == 0 ? holders.size() : firstHas;
    }
    return what - 2 < holders.size() ? holders.get(what - 2) : NONE;
  }

  int drawn(long seed) {
    if (noHunt()) {
      return NONE;
    }
    act();
    long x = seed;
    for (int b = 0; b < slows.size(); b++) {
      int[] order = new int[places.size()];
      for (int p = 0; p < order.length; p++) {
        order[p] = p;
      }
      for (int i = order.length - 1; i >= 1; i--) {
        x = x * 6364136223846793005L + 1442695040888963407L;
        int j = (int) Long.remainderUnsigned(x >>> 33, i + 1);
        int kept = order[j];
        order[j] = order[i];
        order[i] = kept;
      }
      orders.set(b, order);
    }
    return acts.size();
  }

  int image() {
    if (noHunt()) {
      return NONE;
    }
    imageOrders = copy(orders);
    imageStarts = starts.clone();
    return acts.size();
  }

  int back() {
    if (imageOrders == null) {
      return NONE;
    }
    orders = copy(imageOrders);
    starts = imageStarts.clone();
    acts.clear();
    return 0;
  }

  int again() {
    if (imageOrders == null) {
      return NONE;
    }
    int alike = 0;
    for (int b = 0; b < slows.size(); b++) {
      for (int t = 0; t < places.size(); t++) {
        alike += orders.get(b)[t] == imageOrders.get(b)[t] ? 1 : 0;
      }
    }
    return alike;
  }

  int count(int what) {
    int[] counts = {places.size(), slows.size(), worths.size(), tape.length(), follow, stay, holding, found.size(),
        acts.size()};
    return what >= 0 && what < counts.length ? counts[what] : HIDDEN;
  }
}
