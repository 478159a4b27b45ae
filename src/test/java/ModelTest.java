import java.lang.reflect.InvocationTargetException;
import java.lang.reflect.Method;
import java.util.ArrayList;
import java.util.Arrays;
import java.util.Comparator;
import java.util.List;
import java.util.Random;

/** Long runs of calls, the same each time, on BesideTom and on the slow Model: both must answer alike. */
public final class ModelTest {
  private static final int CALLS = 512;
  private static final List<Method> FACE = new ArrayList<>();
  private static int wrong = 0;
  private static long calls = 0;
  private static int faults = 0, roomsRead = 0;

  private final Random random;
  private final BesideTom it = new BesideTom();
  private final Model model = new Model();
  private final List<String> done = new ArrayList<>();
  private int spent = 0;

  private ModelTest(long seed) { random = new Random(seed); }

  public static void main(String[] args) throws Exception {
    int runs = args.length > 0 ? Integer.parseInt(args[0]) : 120;
    for (Method m : BesideTom.class.getDeclaredMethods()) {
      if (java.lang.reflect.Modifier.isPublic(m.getModifiers())) FACE.add(m);
    }
    FACE.sort(Comparator.comparing(Method::getName));
    for (int run = 0; run < runs && wrong < 5; run++) new ModelTest(run).runs(run);
    if (faults < runs || roomsRead < runs) {
      wrong++;
      System.out.println("too few texts were read: " + roomsRead + " rooms, " + faults + " faults");
    }
    System.out.println("ModelTest: " + calls + " calls, " + roomsRead + " rooms, " + faults + " faults, " + wrong + " wrong");
    if (wrong != 0) System.exit(1);
  }

  private void runs(int run) throws Exception {
    int pupils = random.nextInt(7);
    boolean seldom = random.nextBoolean();
    for (int i = 0; i < pupils; i++) call("pupil", random.nextInt(7), random.nextInt(10));
    while (spent < CALLS && wrong < 5) {
      int what = random.nextInt(seldom ? 400 : 60);
      if (what < 1) texts(room());
      else if (what < 2) texts(spoilt(room()));
      else if (what < 3) heard();
      else if (what < 4) booked();
      else if (what < 5) acted();
      else if (what < 6) calmed();
      else if (what < 7) lined();
      else if (what < 8) taped();
      else any();
    }
  }

  private void any() throws Exception {
    Method m = FACE.get(random.nextInt(FACE.size()));
    // An undo each 38 calls would leave little that grows.
    if (m.getName().equals("undo") && random.nextInt(4) != 0) return;
    if (m.getName().equals("room") && random.nextInt(8) != 0) return;
    Class<?>[] types = m.getParameterTypes();
    Object[] args = new Object[types.length];
    for (int i = 0; i < args.length; i++) {
      if (types[i] == boolean.class) args[i] = random.nextInt(3) == 0;
      else if (types[i] == long.class) args[i] = wide();
      else args[i] = number(m.getName(), i);
    }
    call(m.getName(), args);
  }

  private long wide() {
    return random.nextBoolean() ? random.nextInt(7) : random.nextLong() >> random.nextInt(64);
  }

  private int number(String name, int at) {
    int[] odd = {-2, -1, 6, 7, 9, 10, 60, 61, 99, 100, 127, 128, 999, 1000, 9999, 10000,
      Integer.MIN_VALUE, Integer.MAX_VALUE, Integer.MIN_VALUE + 9, Integer.MAX_VALUE - 3};
    if (random.nextInt(12) == 0) return odd[random.nextInt(odd.length)];
    switch (name + at) {
      case "knows1": return random.nextInt(3) == 0 ? 9990 + random.nextInt(10) : random.nextInt(10000);
      case "pass0": case "on0": return random.nextInt(61);
      case "feed0": return random.nextInt(128);
      case "loud0": case "few0": case "odds0": return nearNoise();
      case "hear0": return nearNoise();
      case "hear1": return random.nextInt(21);
      case "act2": return random.nextInt();
      case "tape2": return random.nextInt(61);
      case "item1": case "read1": return random.nextInt(20);
      case "of1": case "told0": return random.nextInt(16);
      case "on1": case "quietest0": case "wisest0":
        return random.nextBoolean() ? random.nextInt(2) : 10 + random.nextInt(6);
      case "odds1": case "mean0": case "can1": case "ends0": case "best0": return random.nextInt(2);
      default: return random.nextInt(7);
    }
  }

  private int nearNoise() {
    return Math.max(0, Math.min(999, model.now.noise() + random.nextInt(25) - 16));
  }

  /** What is HEARD as it would be, were something a little otherwise, so that WHERE and CAN find some. */
  private void heard() throws Exception {
    call("hear", -1, random.nextInt(30));
    Model.S s = model.now.copy();
    int many = s.pupils.size();
    if (many > 0 && random.nextBoolean()) s = s.with(random.nextInt(many), random.nextInt(6));
    if (many > 0 && random.nextBoolean()) s.pupils.get(random.nextInt(many)).v = random.nextInt(10);
    for (int i = random.nextInt(4); i >= 0; i--) {
      int n = random.nextInt(21);
      call("hear", Math.min(999, s.behind(n).noise()), n);
    }
    for (int p = 0; p < many; p++) {
      call("where", p);
      call("can", p, 0);
      call("can", p, 1);
    }
  }

  /** DESKS told rightly but for one here and there. */
  private void booked() throws Exception {
    int many = model.now.pupils.size();
    call("book", -1, 0);
    for (int i = 0; i < 9 && many > 0; i++) {
      int p = random.nextInt(many);
      call("book", p, random.nextInt(9) == 0 ? random.nextInt(6) : model.get(p).desk);
    }
    call("looked");
    int tape = random.nextInt(6), from = random.nextInt(4), size = random.nextInt(12);
    call("tape", tape, 0, size);
    for (int p = 0; p < many; p++) {
      call("item", tape, from + p, (long) (random.nextInt(12) == 0 ? random.nextInt(300) : model.get(p).desk));
    }
    call("judge", tape, from);
  }

  private void acted() throws Exception {
    call("act", random.nextInt(6), random.nextInt(3), random.nextInt(200) - 100);
    for (int i = 0; i <= model.trace.size(); i++) call("trace", i);
    call("count", 6);
  }

  /** Just so much noise as few changes, or few weeks, are enough for. */
  private void calmed() throws Exception {
    int least = model.quietest(0), is = model.now.noise();
    for (int i = 0; i < 3; i++) call("few", Math.min(999, least + random.nextInt(4)));
    call("loud", Math.min(999, model.now.behind(random.nextInt(61)).noise()));
    call("odds", Math.min(999, least + random.nextInt(Math.max(1, is - least + 1))), 0);
  }

  private void lined() throws Exception {
    for (Model.P p : new ArrayList<>(model.now.pupils)) {
      for (int part = 0; part < 4; part++) {
        if (p.kind == 6 || part == p.number) call("line", p.number, part, random.nextInt(10));
      }
    }
  }

  private void taped() throws Exception {
    int a = random.nextInt(6), b = random.nextInt(6), sort = random.nextInt(5), size = 1 + random.nextInt(6);
    call("tape", a, sort, size);
    call("tape", b, sort, size + 1);
    for (int i = 0; i < 4; i++) call("item", random.nextBoolean() ? a : b, random.nextInt(size), random.nextLong());
    for (int i = 0; i < 3; i++) {
      call("shift", a, random.nextInt(3), b, random.nextInt(3), random.nextInt(size + 1));
      call("shift", b, random.nextInt(2), b, random.nextInt(2), random.nextInt(size + 1));
    }
    for (int i = 0; i <= size; i++) call("read", b, i);
  }

  private void texts(String text) throws Exception {
    if (spent + text.length() + 2 > CALLS) return;
    if (model.text.length() > 0 && model.rooms.size() < 6) call("room");
    for (char sign : text.toCharArray()) call("feed", (int) sign);
    call("room");
  }

  private String room() {
    int clauses = random.nextInt(6) == 0 ? 9 + random.nextInt(3) : 1 + random.nextInt(3);
    StringBuilder text = new StringBuilder();
    for (int i = 0; i < clauses; i++) {
      if (i > 0) text.append(';');
      int n = random.nextInt(random.nextBoolean() ? 6 : 100);
      if (clauses > 8 || random.nextInt(4) == 0) {
        text.append(random.nextBoolean() ? "wear " : "cost ").append(n);
      } else {
        text.append(random.nextBoolean() ? "chat " : "hush ").append(n).append(' ').append(either(0));
      }
    }
    return text.length() > 100 ? text.substring(0, 100) : text.toString();
  }

  private String either(int depth) {
    StringBuilder text = new StringBuilder(single(depth));
    while (random.nextInt(3) == 0) text.append(random.nextBoolean() ? '|' : '&').append(single(depth));
    return text.toString();
  }

  private String single(int depth) {
    if (depth < 6 && random.nextInt(3) == 0) {
      return random.nextBoolean() ? "!" + single(depth + 1) : "(" + either(depth + 1) + ")";
    }
    String n = String.valueOf(random.nextInt(random.nextInt(8) == 0 ? 100 : 6));
    return "" + "pdkvrc".charAt(random.nextInt(6)) + "<=>".charAt(random.nextInt(3)) + n;
  }

  private String spoilt(String text) {
    StringBuilder spoilt = new StringBuilder(text);
    String signs = "chatuswero pdkvrc0123456789!(|&);<=>\0";
    for (int i = random.nextInt(2); i >= 0 && spoilt.length() > 0; i--) {
      int at = random.nextInt(spoilt.length());
      char sign = signs.charAt(random.nextInt(signs.length()));
      switch (random.nextInt(4)) {
        case 0: spoilt.setCharAt(at, sign); break;
        case 1: spoilt.deleteCharAt(at); break;
        case 2: spoilt.setLength(at); break;
        default: if (spoilt.length() < 100) spoilt.insert(at, sign);
      }
    }
    return spoilt.toString();
  }

  private void call(String name, Object... args) throws Exception {
    if (spent++ >= CALLS) return;
    calls++;
    Object got = answer(it, BesideTom.class, name, args), due = answer(model, Model.class, name, args);
    done.add(name + Arrays.toString(args) + " " + got);
    if (name.equals("room") && got instanceof Integer) {
      if ((Integer) got >= 0) roomsRead++;
      if ((Integer) got <= -10) faults++;
    }
    if (got.equals(due)) return;
    wrong++;
    System.out.println(name + Arrays.toString(args) + " answered " + got + ", the model " + due);
    System.out.println("  behind " + done.subList(Math.max(0, done.size() - 160), done.size()));
  }

  private static Object answer(Object on, Class<?> type, String name, Object[] args) throws Exception {
    for (Method m : type.getDeclaredMethods()) {
      if (m.getName().equals(name) && m.getParameterCount() == args.length) {
        try {
          return m.invoke(on, args);
        } catch (InvocationTargetException e) {
          if (on instanceof Model) throw e;
          return e.getCause();
        }
      }
    }
    throw new IllegalStateException(name);
  }
}
