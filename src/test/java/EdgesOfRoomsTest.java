/** Each boundary that the document names in promises 8 to 10, and in the terms that they rest on. */
public final class EdgesOfRoomsTest extends Edge {
  private static final String NINE = "cost 1;cost 2;cost 3;cost 4;cost 5;cost 6;cost 7;cost 8;cost 9";

  private EdgesOfRoomsTest() {}

  public static void main(String[] args) {
    feed();
    room();
    clauses();
    words();
    numbers();
    joints();
    depth();
    tests();
    holds();
    told();
    ends("EdgesOfRoomsTest");
  }

  private static void feed() {
    edge(8, "A sign (0 .. 127): too small", () -> is(BAD, new BesideTom().feed(-1)));
    edge(8, "A sign (0 .. 127): too large", () -> is(BAD, new BesideTom().feed(128)));
    edge(8, "A sign (0 .. 127): far off", () -> {
      for (int far : FAR) is(BAD, new BesideTom().feed(far));
      is(BAD, new BesideTom().feed(256 + 'c'));
    });
    edge(8, "A sign (0 .. 127): 0 and 127 are", () -> {
      BesideTom x = new BesideTom();
      is(1, x.feed(0));
      is(2, x.feed(127));
    });
    edge(8, "how many it has: a bad one is none", () -> {
      BesideTom x = new BesideTom();
      x.feed('c');
      x.feed(-1);
      x.feed(128);
      is(2, x.feed('o'));
      is(2, x.count(5));
    });
    edge(8, "FULL: bytes, 100 at most", () -> {
      BesideTom x = new BesideTom();
      for (int i = 1; i <= 100; i++) is(i, x.feed(' '));
      is(FULL, x.feed(' '));
      is(100, x.count(5));
    });
    edge(8, "the first that the words name: BAD ahead of FULL", () -> {
      BesideTom x = new BesideTom();
      for (int i = 0; i < 100; i++) x.feed(' ');
      is(BAD, x.feed(-1));
      is(BAD, x.feed(128));
    });
    edge(8, "FULL: with six ROOMS there is still a TEXT, of 100 too", () -> {
      BesideTom x = sixRooms();
      for (int i = 1; i <= 100; i++) is(i, x.feed('c'));
      is(FULL, x.feed('c'));
    });
    edge(8, "sign 0 is a sign", () -> {
      is(-10, room(new BesideTom(), "\0"));
      is(-16, room(new BesideTom(), "cost 1\0"));
      is(-14, room(new BesideTom(), "cost\0" + "1"));
    });
    edge(8, "sign 127 is a sign", () -> is(-16, room(new BesideTom(), "cost 1\177")));
  }

  private static BesideTom sixRooms() {
    BesideTom x = plain(1);
    for (int i = 0; i < 6; i++) room(x, "wear 1" + i);
    return x;
  }

  private static void room() {
    edge(9, "its number: 0 .. 5", () -> {
      BesideTom x = new BesideTom();
      for (int i = 0; i < 6; i++) is(i, room(x, "wear " + i));
    });
    edge(9, "FULL: there are 6, the seventh", () -> is(FULL, room(sixRooms(), "wear 7")));
    edge(9, "FULL: there are 6, not yet the sixth", () -> {
      BesideTom x = new BesideTom();
      for (int i = 0; i < 5; i++) room(x, "wear 7");
      is(5, room(x, "wear 7"));
    });
    edge(9, "FULL (THE TEXT stays)", () -> {
      BesideTom x = sixRooms();
      room(x, "wear 7");
      is(6, x.count(5));
      is(7, x.feed('7'));
    });
    edge(9, "FULL: how many ROOMS", () -> {
      BesideTom x = sixRooms();
      room(x, "wear 7");
      is(6, x.count(1));
    });
    edge(9, "FULL: the one that held holds", () -> {
      BesideTom x = sixRooms();
      room(x, "wear 7");
      is(15, x.told(2));
    });
    edge(9, "the first that the words name: FULL ahead of a FAULT", () -> {
      is(FULL, room(sixRooms(), "weak"));
      is(FULL, sixRooms().room());
    });
    edge(9, "THE TEXT is empty then, behind a ROOM", () -> {
      BesideTom x = new BesideTom();
      room(x, "wear 7");
      is(0, x.count(5));
      is(1, x.feed('c'));
    });
    edge(9, "THE TEXT is empty then, behind a FAULT", () -> {
      BesideTom x = new BesideTom();
      room(x, "weak 7");
      is(0, x.count(5));
      is(0, room(x, "wear 7"));
    });
    edge(9, "-10 less the FAULT: how many ROOMS", () -> {
      BesideTom x = new BesideTom();
      room(x, "wear 7");
      room(x, "weak 7");
      is(1, x.count(1));
    });
    edge(9, "-10 less the FAULT: the next number", () -> {
      BesideTom x = new BesideTom();
      room(x, "weak 7");
      is(0, room(x, "wear 7"));
      room(x, "weak 7");
      is(1, room(x, "wear 7"));
    });
    edge(9, "-10 less the FAULT (the one that held holds): WEARS, COST, MOUTH", () -> {
      BesideTom x = plain(1);
      room(x, "wear 7;cost 8;chat 2 p=0");
      room(x, "wear 1;cost 2;chat 9 p=0;");
      is(7, x.told(2));
      is(8, x.told(3));
      is(5, x.of(0, 10));
    });
    edge(9, "-10 less the FAULT: none held, none holds", () -> {
      BesideTom x = plain(1);
      room(x, "wear 1;cost 2;chat 9 p=0;");
      is(3, x.told(2));
      is(4, x.told(3));
      is(3, x.of(0, 10));
    });
    edge(9, "-10 less the FAULT: of one who comes behind it", () -> {
      BesideTom x = new BesideTom();
      room(x, "chat 2 p=0");
      room(x, "chat 9 p=0;");
      x.pupil(0, 0);
      is(5, x.of(0, 10));
    });
    edge(9, "without one there are no CLAUSES: THE TEXT alone is none as yet", () -> {
      BesideTom x = plain(1);
      feed(x, "chat 9 p<9;wear 9;cost 9");
      x.pupil(0, 0);
      is(3, x.of(0, 10));
      is(3, x.of(1, 10));
      is(3, x.told(2));
      is(4, x.told(3));
      is(0, x.room());
      feed(x, "chat 1 p<9");
      x.pupil(0, 0);
      is(12, x.of(0, 10));
      is(12, x.of(2, 10));
    });
    edge(9, "The newest ROOM holds", () -> {
      BesideTom x = plain(1);
      room(x, "wear 7;cost 8;chat 2 p=0");
      room(x, "hush 1 p=0");
      is(3, x.told(2));
      is(4, x.told(3));
      is(2, x.of(0, 10));
    });
    edge(9, "The newest ROOM holds, the sixth", () -> {
      BesideTom x = plain(1);
      for (int i = 0; i < 5; i++) room(x, "wear 9;chat 9 p=0");
      room(x, "wear 8;chat 1 p=0");
      is(8, x.told(2));
      is(4, x.of(0, 10));
    });
    edge(9, "A ROOM leaves WEAR as it is", () -> {
      BesideTom x = plain(1);
      x.pass(5);
      room(x, "wear 5");
      is(5, x.told(1));
    });
    edge(9, "FAULT: THE TEXT is empty", () -> is(-10, new BesideTom().room()));
    edge(9, "FAULT: THE TEXT is empty, behind a ROOM", () -> {
      BesideTom x = new BesideTom();
      room(x, "wear 7");
      is(-10, x.room());
    });
  }

  private static void faulty(int fault, String text) {
    is(-10 - fault, room(new BesideTom(), text));
  }

  private static void fine(String text) {
    is(0, room(new BesideTom(), text));
  }

  private static void clauses() {
    edge(9, "CLAUSES, 1 to 10: none", () -> faulty(0, ""));
    edge(9, "CLAUSES, 1 to 10: one", () -> fine("wear 1"));
    edge(9, "CLAUSES, 1 to 10: ten", () -> fine(NINE + ";wear 1"));
    edge(9, "CLAUSES, 1 to 10: ten, all of them hold", () -> {
      BesideTom x = plain(1);
      room(x, "chat 1 p=0;chat 2 p=0;chat 3 p=0;chat 4 p=0;hush 1 p=0;hush 2 p=0;wear 5;cost 6;cost 7;chat 9 p=0");
      is(3 + 10 - 3 + 9, x.of(0, 10));
      is(5, x.told(2));
      is(7, x.told(3));
    });
    edge(9, "CLAUSES, 1 to 10: eleven, the FAULT is the ; ahead", () -> faulty(69, NINE + ";wear 1;wear 2"));
    edge(9, "CLAUSES, 1 to 10: ten, and a ; behind", () -> faulty(69, NINE + ";wear 1;"));
    edge(9, "with ; between: behind the last, the end comes too early", () -> faulty(7, "wear 1;"));
    edge(9, "with ; between: two of them", () -> faulty(7, "wear 1;;cost 1"));
    edge(9, "with ; between: ahead of the first", () -> faulty(0, ";wear 1"));
    edge(9, "with ; between: none", () -> {
      faulty(6, "wear 1cost 1");
      faulty(6, "wear 1 cost 1");
      faulty(10, "chat 1 p=0wear 1");
    });
    edge(9, "with ; between: a blank behind it", () -> faulty(7, "wear 1; cost 1"));
    edge(9, "with ; between: within ( ) is none", () -> faulty(11, "chat 1 (p=0;wear 1)"));
    edge(9, "100 bytes are a ROOM", () -> {
      String text = NINE + ";chat 1 p=0|p=1|p=2|p=3|p=10|p=11|d=20";
      is(100, text.length());
      fine(text);
    });
    edge(9, "FAULT: the last of 100 bytes", () -> {
      String text = NINE + ";chat 1 p=0|p=1|p=2|p=3|p=10|p=11|d=2;";
      is(100, text.length());
      faulty(99, text);
    });
    edge(9, "FAULT: the end of 100 bytes, too early", () -> {
      String text = NINE + ";chat 1 p=0|p=1|p=2|p=3|p=10|p=11|d=2|";
      is(100, text.length());
      faulty(100, text);
    });
    edge(9, "a byte that could not be kept is not read", () -> {
      BesideTom x = new BesideTom();
      feed(x, NINE + ";chat 1 p=0|p=1|p=2|p=3|p=10|p=11|d=20");
      is(FULL, x.feed(';'));
      is(0, x.room());
    });
  }

  private static void words() {
    edge(9, "FAULT: the end within each word", () -> {
      for (String word : new String[] {"chat", "hush", "wear", "cost"}) {
        for (int i = 0; i <= 4; i++) faulty(i, word.substring(0, i));
      }
    });
    edge(9, "FAULT: another sign within each word", () -> {
      for (String word : new String[] {"chat", "hush", "wear", "cost"}) {
        for (int i = 0; i < 4; i++) faulty(i, word.substring(0, i) + "x" + word.substring(i + 1) + " 1");
      }
    });
    edge(9, "FAULT: a word that begins as one and goes on as another", () -> {
      faulty(2, "coat 1");
      faulty(2, "chst 1");
      faulty(1, "hear 1");
      faulty(1, "wush 1");
    });
    edge(9, "FAULT: large letters", () -> {
      faulty(0, "Chat 1 p=0");
      faulty(3, "weaR 1");
    });
    edge(9, "FAULT: a letter behind the word", () -> faulty(4, "wears 1"));
    edge(9, "FAULT: a blank ahead of the word", () -> faulty(0, " wear 1"));
    edge(9, "one blank ahead of each part behind the word: none ahead of n", () -> {
      faulty(4, "chat1 p=0");
      faulty(4, "hush1 p=0");
      faulty(4, "wear1");
      faulty(4, "cost1");
    });
    edge(9, "one blank ahead of each part behind the word: two ahead of n", () -> {
      faulty(5, "chat  1 p=0");
      faulty(5, "cost  1");
    });
    edge(9, "one blank ahead of each part behind the word: none ahead of E", () -> {
      faulty(6, "chat 1p=0");
      faulty(6, "hush 1(p=0)");
    });
    edge(9, "one blank ahead of each part behind the word: two ahead of E", () -> faulty(7, "hush 1  p=0"));
    edge(9, "one blank ahead of each part behind the word: and no other", () -> {
      faulty(8, "chat 1 p =0");
      faulty(9, "chat 1 p= 0");
      faulty(10, "chat 1 p=0 ");
      faulty(10, "chat 1 p=0 &d=0");
      faulty(11, "chat 1 p=0& d=0");
      faulty(8, "chat 1 ( p=0)");
      faulty(11, "chat 1 (p=0 )");
      faulty(8, "chat 1 ! p=0");
      faulty(6, "wear 1 ");
    });
    edge(9, "another blank is none", () -> faulty(4, "wear\t1"));
    edge(9, "wear n, cost n: no E behind", () -> {
      faulty(6, "wear 1 p=0");
      faulty(6, "cost 1 p=0");
    });
    edge(9, "chat n E, hush n E: no E", () -> {
      faulty(6, "chat 1");
      faulty(7, "chat 1 ");
      faulty(6, "hush 1;wear 1");
      faulty(7, "hush 1 ;wear 1");
    });
  }

  private static void numbers() {
    edge(9, "n 1 or 2 digits: none", () -> {
      faulty(5, "wear ");
      faulty(5, "cost ;");
      faulty(5, "chat p=0");
      faulty(5, "hush  p=0");
    });
    edge(9, "n 1 or 2 digits: one", () -> {
      BesideTom x = new BesideTom();
      room(x, "wear 7");
      is(7, x.told(2));
    });
    edge(9, "n 1 or 2 digits: two", () -> {
      BesideTom x = new BesideTom();
      room(x, "wear 70;cost 99");
      is(70, x.told(2));
      is(99, x.told(3));
    });
    edge(9, "n 1 or 2 digits: two, 0 ahead", () -> {
      BesideTom x = new BesideTom();
      room(x, "wear 07;cost 09");
      is(7, x.told(2));
      is(9, x.told(3));
    });
    edge(9, "n 1 or 2 digits: three", () -> {
      faulty(7, "wear 123");
      faulty(7, "cost 000");
      faulty(7, "chat 123 p=0");
      faulty(7, "hush 100 p=0");
    });
    edge(9, "n 1 or 2 digits: the digits' neighbours are none", () -> {
      faulty(5, "wear /");
      faulty(5, "wear :");
      faulty(6, "wear 1/");
      faulty(6, "wear 1:");
      fine("wear 0");
      fine("wear 9");
    });
    edge(9, "n 1 or 2 digits: no sign ahead", () -> {
      faulty(5, "wear -1");
      faulty(5, "wear +1");
    });
    edge(9, "a number (1 or 2 digits): none", () -> {
      faulty(9, "chat 1 p=");
      faulty(9, "chat 1 p=;wear 1");
      faulty(9, "chat 1 p=v");
      faulty(9, "chat 1 p<=1");
    });
    edge(9, "a number (1 or 2 digits): one, two", () -> {
      fine("chat 1 p=9");
      fine("chat 1 p=99");
      fine("chat 1 p=00");
    });
    edge(9, "a number (1 or 2 digits): three", () -> {
      faulty(11, "chat 1 p=000");
      faulty(11, "chat 1 p<123");
    });
    edge(9, "(WEARS 1 if less)", () -> {
      for (String n : new String[] {"0", "00", "1", "01"}) {
        BesideTom x = new BesideTom();
        room(x, "wear " + n);
        is(1, x.told(2));
      }
    });
    edge(9, "(COST 1 if less)", () -> {
      for (String n : new String[] {"0", "00", "1", "01"}) {
        BesideTom x = new BesideTom();
        room(x, "cost " + n);
        is(1, x.told(3));
      }
    });
    edge(9, "WEARS 1 if less: WEAR by WEARS", () -> {
      BesideTom x = plain(2);
      room(x, "wear 0");
      x.pass(5);
      is(16, x.told(4));
    });
    edge(9, "COST 1 if less: NOISE by COST", () -> {
      BesideTom x = plain(2);
      room(x, "cost 0");
      is(4, x.of(0, 8));
    });
    edge(9, "WEARS (3 without), if the ROOM has no wear", () -> {
      BesideTom x = new BesideTom();
      room(x, "cost 9");
      is(3, x.told(2));
    });
    edge(9, "COST (4 without), if the ROOM has no cost", () -> {
      BesideTom x = new BesideTom();
      room(x, "wear 9");
      is(4, x.told(3));
    });
    edge(9, "the last n of wear", () -> {
      BesideTom x = new BesideTom();
      room(x, "wear 9;cost 1;wear 5;wear 7");
      is(7, x.told(2));
      room(x, "wear 9;wear 0");
      is(1, x.told(2));
    });
    edge(9, "the last n of cost", () -> {
      BesideTom x = new BesideTom();
      room(x, "cost 9;wear 1;cost 5;cost 7");
      is(7, x.told(3));
      room(x, "cost 9;cost 0");
      is(1, x.told(3));
    });
    edge(9, "chat 0, hush 0 and chat 99, hush 99", () -> {
      BesideTom x = plain(1);
      room(x, "chat 0 p=0;hush 0 p=0");
      is(3, x.of(0, 10));
      room(x, "chat 99 p=0");
      is(102, x.of(0, 10));
      room(x, "chat 99 p=0;hush 99 p=0");
      is(3, x.of(0, 10));
      room(x, "hush 99 p=0");
      is(0, x.of(0, 10));
    });
    edge(9, "chat of ten CLAUSES, 99 each", () -> {
      BesideTom x = plain(1);
      room(x, "chat 99 p=0;chat 99 p=0;chat 99 p=0;chat 99 p=0;chat 99 p=0;chat 99 p=0;chat 99 p=0;chat 99 p=0");
      is(3 + 8 * 99, x.of(0, 10));
    });
  }

  private static void joints() {
    edge(9, "T|E: nothing behind", () -> faulty(11, "chat 1 p=0|"));
    edge(9, "T|E: nothing ahead", () -> faulty(7, "chat 1 |p=0"));
    edge(9, "T|E: two", () -> faulty(11, "chat 1 p=0||p=0"));
    edge(9, "F&T: nothing behind", () -> faulty(11, "chat 1 p=0&"));
    edge(9, "F&T: nothing ahead", () -> faulty(7, "chat 1 &p=0"));
    edge(9, "F&T: two", () -> faulty(11, "chat 1 p=0&&p=0"));
    edge(9, "T|E and F&T: one behind the other", () -> {
      faulty(11, "chat 1 p=0&|p=0");
      faulty(11, "chat 1 p=0|&p=0");
    });
    edge(9, "FAULT: behind what decides already, or does not count", () -> {
      faulty(11, "chat 1 p=0|q=0");
      faulty(11, "chat 1 p=1&q=0");
      faulty(13, "chat 1 !(p=0|q=0)");
      faulty(18, "chat 1 p=1;chat 1 q=0");
      faulty(19, "chat 0 p=0;hush 0 (");
    });
    edge(9, "!F: nothing behind", () -> {
      faulty(8, "chat 1 !");
      faulty(8, "chat 1 !;wear 1");
      faulty(8, "chat 1 !|p=0");
    });
    edge(9, "!F: behind a TEST", () -> faulty(10, "chat 1 p=0!p=0"));
    edge(9, "(E): empty", () -> faulty(8, "chat 1 ()"));
    edge(9, "(E): not closed", () -> {
      faulty(8, "chat 1 (");
      faulty(11, "chat 1 (p=0");
      faulty(13, "chat 1 ((p=0)");
    });
    edge(9, "(E): closed once too often", () -> {
      faulty(10, "chat 1 p=0)");
      faulty(12, "chat 1 (p=0))");
      faulty(7, "chat 1 )");
    });
    edge(9, "(E): one behind the other", () -> faulty(12, "chat 1 (p=0)(p=0)"));
    edge(9, "(E): a TEST behind", () -> faulty(12, "chat 1 (p=0)p=0"));
    edge(9, "(E): a TEST ahead", () -> faulty(10, "chat 1 p=0(p=0)"));
    edge(9, "a TEST: the end behind the letter", () -> faulty(8, "chat 1 p"));
    edge(9, "a TEST: the end behind < = >", () -> {
      faulty(9, "chat 1 p<");
      faulty(9, "chat 1 p=");
      faulty(9, "chat 1 p>");
    });
    edge(9, "a TEST: no such letter", () -> {
      for (char no : "abefghijlmnoqstuwxyzPDKVRC0".toCharArray()) faulty(7, "chat 1 " + no + "=0");
      for (char is : "pdkvrc".toCharArray()) fine("chat 1 " + is + "=0");
    });
    edge(9, "a TEST: no such sign between", () -> {
      for (char no : "!;:?~-+ 0p".toCharArray()) faulty(8, "chat 1 p" + no + "0");
      for (char is : "<=>".toCharArray()) fine("chat 1 p" + is + "0");
    });
    edge(9, "a TEST: two signs between", () -> {
      faulty(9, "chat 1 p==0");
      faulty(9, "chat 1 p>=0");
      faulty(9, "chat 1 p<>0");
    });
    edge(9, "a TEST: a number alone", () -> faulty(7, "chat 1 0"));
    edge(9, "a TEST: the number ahead", () -> faulty(7, "chat 1 0=p"));
  }

  private static void depth() {
    edge(9, "A ( within 4 others is none: four", () -> fine("chat 1 ((((p=0))))"));
    edge(9, "A ( within 4 others is none: five", () -> faulty(11, "chat 1 (((((p=0)))))"));
    edge(9, "A ! within 4 others is none: four", () -> fine("chat 1 !!!!p=0"));
    edge(9, "A ! within 4 others is none: five", () -> faulty(11, "chat 1 !!!!!p=0"));
    edge(9, "A ( within 4 others, some of them !, is none", () -> {
      fine("chat 1 !(!(p=0))");
      faulty(11, "chat 1 !(!((p=0)))");
      fine("chat 1 !!!(p=0)");
      faulty(11, "chat 1 !!!!(p=0)");
    });
    edge(9, "A ! within 4 others, some of them (, is none", () -> {
      fine("chat 1 (((!p=0)))");
      faulty(11, "chat 1 ((((!p=0))))");
      faulty(11, "chat 1 ((!(!p=0)))");
    });
    edge(9, "within 4 others: ahead is not around", () -> {
      fine("chat 1 !!!!p=0&!!!!p=0|!!!!p=0");
      fine("chat 1 ((((p=0))))&((((p=0))))|((((p=0))))");
      fine("chat 1 (!!!p=0&!!!p=0|(((p=0))))");
      fine("chat 1 ((((p=0)))|((p=0)))");
    });
    edge(9, "within 4 others: an ! ahead is not around what is behind its F", () -> {
      fine("chat 1 !p=0&((((p=0))))");
      faulty(16, "chat 1 !p=0&((((!p=0))))");
    });
    edge(9, "within 4 others: the fifth behind others that are closed", () -> {
      faulty(15, "chat 1 (((p=0&!!p=0)))");
      faulty(21, "chat 1 ((((p=0)))&((((p=0)))))");
    });
    edge(9, "within 4 others: in the second CLAUSE as in the first", () -> {
      fine("chat 1 ((((p=0))));hush 1 ((((p=0))))");
      faulty(22, "chat 1 p=0;hush 1 !!!!!p=0");
    });
    edge(9, "within 4 others: what it says, four deep", () -> {
      is(1, says("!!!!p=0"));
      is(0, says("!!!p=0"));
      is(1, says("((((p=0))))"));
      is(0, says("!(((p=0)))"));
      is(1, says("!(!(p=0))"));
      is(1, says("!(!(p=0|p=1)&p=0)"));
    });
  }

  /** Of the first PUPIL, with v 7, at DESK 5, whether it is so. */
  private static int says(String test) {
    BesideTom x = of(0, 7);
    return room(x, "chat 1 " + test) == 0 ? x.of(0, 15) - 3 : -99;
  }

  private static void tests() {
    edge(9, "a TEST <: less, as much, more", () -> {
      is(1, says("v<8"));
      is(0, says("v<7"));
      is(0, says("v<6"));
    });
    edge(9, "a TEST =: less, as much, more", () -> {
      is(0, says("v=8"));
      is(1, says("v=7"));
      is(0, says("v=6"));
    });
    edge(9, "a TEST >: less, as much, more", () -> {
      is(0, says("v>8"));
      is(0, says("v>7"));
      is(1, says("v>6"));
    });
    edge(9, "a TEST of the least and the greatest number", () -> {
      is(0, says("p<0"));
      is(1, says("p=0"));
      is(0, says("p>0"));
      is(1, says("d<99"));
      is(0, says("d=99"));
      is(0, says("d>99"));
      is(0, says("v=77"));
    });
    edge(9, "p the number, 0 and 5", () -> {
      BesideTom x = plain(6);
      room(x, "chat 1 p=0;chat 2 p=5");
      int[] due = {4, 3, 3, 3, 3, 5};
      for (int p = 0; p < 6; p++) is(due[p], x.of(p, 10));
    });
    edge(9, "k its KIND, 0 and 6", () -> {
      BesideTom x = of(0, 0, 6, 0, 5, 0);
      room(x, "chat 1 k=0;chat 2 k>5");
      is(4, x.of(0, 10));
      is(5, x.of(1, 10));
      is(3, x.of(2, 10));
    });
    edge(9, "k its KIND, not one that it is under", () -> {
      BesideTom x = of(4, 0);
      room(x, "chat 1 k=1;chat 2 k=0");
      is(3, x.of(0, 10));
    });
    edge(9, "v its v, 0 and 9", () -> {
      BesideTom x = of(0, 0, 0, 9);
      room(x, "chat 1 v=0;chat 2 v=9");
      is(4, x.of(0, 10));
      is(5, x.of(1, 10));
    });
    edge(9, "r ROW of the DESK: by 3 (cut)", () -> {
      BesideTom x = plain(1);
      room(x, "chat 1 r=0;chat 2 r=1");
      int[] due = {4, 4, 4, 5, 5, 5};
      for (int d = 0; d < 6; d++) is(due[d], x.of(0, 10 + d));
    });
    edge(9, "c its COLUMN: modulo 3", () -> {
      BesideTom x = plain(1);
      room(x, "chat 1 c=0;chat 2 c=2");
      int[] due = {4, 3, 5, 4, 3, 5};
      for (int d = 0; d < 6; d++) is(due[d], x.of(0, 10 + d));
    });
    edge(9, "d of the other, 0 and 5", () -> {
      BesideTom x = plain(1);
      room(x, "chat 1 d<1;chat 2 d>4");
      int[] due = {4, 3, 3, 3, 3, 5};
      for (int d = 0; d < 6; d++) is(due[d], x.of(0, 10 + d));
    });
  }

  private static void holds() {
    edge(9, "all chat whose E holds: none does", () -> {
      BesideTom x = plain(1);
      room(x, "chat 9 p=1;hush 2 p=1");
      is(3, x.of(0, 10));
    });
    edge(9, "T|E and F&T: & is nearer", () -> {
      is(1, says("p=0|p=1&p=1"));
      is(1, says("p=1&p=1|p=0"));
      is(0, says("(p=0|p=1)&p=1"));
    });
    edge(9, "T|E: either or both", () -> {
      is(1, says("p=0|p=1"));
      is(1, says("p=1|p=0"));
      is(1, says("p=0|p=0"));
      is(0, says("p=1|p=1"));
    });
    edge(9, "F&T: both, not one alone", () -> {
      is(0, says("p=0&p=1"));
      is(0, says("p=1&p=0"));
      is(1, says("p=0&p=0"));
      is(0, says("p=1&p=1"));
    });
    edge(9, "!F: of the nearest alone", () -> {
      is(0, says("!p=0|p=1"));
      is(1, says("!p=1|p=0"));
      is(0, says("!p=0&p=0"));
      is(0, says("!(p=0|p=1)"));
      is(1, says("!(p=0&p=1)"));
    });
    edge(9, "a long row of | and of &", () -> {
      is(1, says("p=1|p=1|p=1|p=1|p=1|p=1|p=1|p=1|p=1|p=1|p=1|p=0"));
      is(0, says("p=0&p=0&p=0&p=0&p=0&p=0&p=0&p=0&p=0&p=0&p=0&p=1"));
    });
    edge(9, "who comes behind the ROOM: it holds for that one too", () -> {
      BesideTom x = new BesideTom();
      room(x, "chat 1 p=0;chat 2 p=5");
      for (int p = 0; p < 6; p++) x.pupil(0, 0);
      is(4, x.of(0, 10));
      is(5, x.of(5, 15));
    });
  }

  private static void told() {
    edge(10, "NONE: what -1", () -> is(NONE, plain(1).told(-1)));
    edge(10, "NONE: what 7, 8, 9, between 6 and 10", () -> {
      for (int what = 7; what <= 9; what++) is(NONE, plain(1).told(what));
    });
    edge(10, "NONE: what 16, of DESK 6", () -> is(NONE, plain(6).told(16)));
    edge(10, "NONE: what far off", () -> {
      for (int far : FAR) is(NONE, plain(6).told(far));
    });
    edge(10, "10 and d who has DESK d, the first and the last", () -> {
      BesideTom x = plain(2);
      x.move(0, 5);
      is(MISSING, x.told(10));
      is(1, x.told(11));
      is(0, x.told(15));
    });
    edge(10, "10 and d who has DESK d (-5: nobody)", () -> {
      for (int d = 1; d < 6; d++) is(MISSING, plain(1).told(10 + d));
    });
    edge(10, "who has DESK d: one who is AWAY too", () -> {
      BesideTom x = plain(1);
      x.away(0, true);
      is(0, x.told(10));
    });
    edge(10, "5 KNOWS of all, together: of six who know 9999", () -> {
      BesideTom x = plain(6);
      for (int p = 0; p < 6; p++) x.knows(p, 9999);
      is(59994, x.told(5));
    });
    edge(10, "5 KNOWS of all, together: of one who is AWAY too", () -> {
      BesideTom x = plain(2);
      x.knows(0, 4);
      x.knows(1, 5);
      x.away(0, true);
      is(9, x.told(5));
    });
    edge(10, "6 LEARNS of all, together: not of one who is AWAY", () -> {
      BesideTom x = plain(2);
      x.away(0, true);
      is(10, x.told(6));
    });
    edge(10, "6 LEARNS of all, together: by NOISE now, not a WEEK on", () -> {
      BesideTom x = still(2);
      is(20, x.told(6));
      x.pass(1);
      is(16, x.told(6));
    });
    edge(10, "4 NOISE: of one alone 0", () -> is(0, plain(1).told(4)));
    edge(10, "4 NOISE: of all who are AWAY 0", () -> {
      BesideTom x = of(4, 9, 6, 9);
      x.line(1, 0, 9);
      x.away(0, true);
      x.away(1, true);
      is(0, x.told(4));
    });
    edge(10, "1 WEAR: 99 at most", () -> {
      BesideTom x = new BesideTom();
      weeks(x, 99);
      is(99, x.told(1));
      x.pass(1);
      is(99, x.told(1));
      is(100, x.told(0));
    });
    edge(10, "0 WEEK: 9999", () -> {
      BesideTom x = new BesideTom();
      weeks(x, 9999);
      is(9999, x.told(0));
    });
  }
}
