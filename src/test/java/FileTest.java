/** Promises 3 to 6 with files, lists and buffers. */
public final class FileTest {
  public static void main(String[] args) {
    opensSyntax();
    sortsAndWays();
    whatLiesOnTheDisk();
    sizes();
    writingAndClosing();
    replacing();
    readingFaults();
    closingFaults();
    threeChannels();
    buffers();
    lists();
    listsLineByLine();
    patterns();
    namesWithFillers();
    Check.end();
  }

  private static void opensSyntax() {
    Check check = Check.formatted();
    check.file("A", "X");
    check.file("ABCDEFGHIJ", "Y");
    String[][] rows = {
      {"", "34"}, {"@", "34"}, {":", "34"}, {"@:", "34"}, {",S", "34"}, {",", "34"}, {":,X", "34"},
      {"ABCDEFGHIJK", "30"}, {"ABCDEFGHIJK,", "30"}, {"A,", "30"}, {"A,X", "30"}, {"A,S,", "30"}, {"A,S,X", "30"},
      {"A,R,S", "30"}, {"A,S,R,", "30"}, {"A,S,R,R", "30"}, {"A,S,S", "30"}, {"A,SR", "30"}, {"A,,R", "30"},
      {"A,s", "30"}, {"A, S", "30"}, {"A,R ", "30"}, {"@A", "30"}, {"@:A,S,R", "30"}, {"@A,R", "30"}, {"@A*", "30"},
      {"A*,W", "33"}, {"?,S,W", "33"}, {"@A*,W", "33"}, {"*,W,", "30"},
      {"#A", "30"}, {"##", "30"}, {"$A", "30"}, {"$ ", "30"}, {"$$", "30"}, {"$:ABCDEFGHIJK", "30"},
      {"A", "0"}, {":A", "0"}, {"A,S", "0"}, {"A,R", "0"}, {"A,S,R", "0"}, {"ABCDEFGHIJ", "0"}, {"*", "0"}, {"?", "0"},
      {"#", "0"}, {"$", "0"}, {"$:", "0"}, {"$:ABCDEFGHIJ", "0"}, {"::", "62"}, {"@@", "30"}, {":#", "62"}, {"A:", "62"},
      {"A,P", "64"}, {"A,U,R", "64"}, {"A,W", "63"}, {"A,P,W", "63"},
    };
    for (String[] row : rows) {
      Check.due("open(2, " + row[0] + ")", row[1] + " 0 0", check.afterOpen(2, row[0]));
      Check.due("open channels", row[1].equals("0") ? 1 : 0, check.drive.look(7));
      check.drive.close(2);
    }
  }

  private static void sortsAndWays() {
    Check check = Check.formatted();
    Check.due("c 1 without way writes", 0, check.open(1, "ONE"));
    Check.due("so it can be written", 0, check.write(1, "1"));
    Check.due("c 0 without way reads", 62, check.open(0, "ZERO"));
    Check.due("c 2 without way reads", 62, check.open(2, "TWO"));
    Check.due("c 0 writes", 0, check.open(0, "ZERO,W"));
    Check.due("c 3 writes", 0, check.open(3, "THREE,W"));
    check.drive.close(15);
    Check.due("c 4 writes P", 0, check.open(4, "FOUR,P,W"));
    Check.due("c 5 writes U", 0, check.open(5, "FIVE,U,W"));
    check.drive.close(15);
    Check.due("c 1 writes S if told", 0, check.open(1, "SIX,S"));
    check.drive.close(1);
    Check.due("list", "\"DISK      \" AB\r1 \"ONE\" P\r1 \"ZERO\" P\r1 \"THREE\" S\r1 \"FOUR\" P\r1 \"FIVE\" U\r1 \"SIX\" S\r66 FREE\r",
        check.list());
    Check.due("c 0 reads P", 0, check.open(0, "ONE"));
    Check.due("c 0 reads no S", 64, check.open(0, "THREE"));
    Check.due("c 0 reads S if told", 0, check.open(0, "THREE,S"));
    Check.due("c 1 reads P", 0, check.open(1, "FOUR,R"));
    Check.due("c 1 reads no U", 64, check.open(1, "FIVE,R"));
    Check.due("c 14 reads any", 0, check.open(14, "FIVE"));
    Check.due("c 14 reads no S of U", 64, check.open(14, "FIVE,S"));
  }

  private static void whatLiesOnTheDisk() {
    Check check = Check.formatted();
    String map = check.block(7, 0);
    StringBuilder want = new StringBuilder(Check.text(7, 1, 68, 0));
    int[] sectors = {8, 8, 8, 7, 7, 7, 6, 6, 6, 5, 5, 5};
    for (int t = 1; t <= 12; t++) {
      want.append((char) (t == 7 ? 4 : sectors[t - 1]));
      want.append((char) (t == 7 ? 60 : (1 << sectors[t - 1]) - 1));
    }
    want.append("DISK").append("\u00A0".repeat(6)).append("AB").append("\0".repeat(24));
    Check.due("map", want.toString(), map);
    Check.due("directory", Check.text(0, 255) + "\0".repeat(62), check.block(7, 1));
    check.file("NAME", Check.many(63));
    check.open(2, "OTHER,U,W");
    check.write(2, "AB");
    String entries = Check.text(0, 255, 129, 6, 0) + "NAME" + "\u00A0".repeat(6) + Check.text(2)
        + Check.text(0, 0, 3, 6, 1) + "OTHER" + "\u00A0".repeat(5) + Check.text(0) + "\0".repeat(32);
    Check.due("entries", entries, check.block(7, 1));
    check.drive.close(2);
    Check.due("entry closed", entries.replace(Check.text(0, 0, 3, 6, 1), Check.text(0, 0, 131, 6, 1))
        .replace("OTHER" + "\u00A0".repeat(5) + "\0", "OTHER" + "\u00A0".repeat(5) + "\1"), check.block(7, 1));
    Check.due("first block", Check.text(6, 3) + Check.many(62), check.block(6, 0));
    Check.due("last block", Check.text(0, 2) + Check.many(63).substring(62) + "\0".repeat(61), check.block(6, 3));
    Check.due("other's block", Check.text(0, 3) + "AB" + "\0".repeat(60), check.block(6, 1));
    Check.due("free of track 6", Check.text(4, 127 - 11), check.block(7, 0).substring(14, 16));
  }

  private static void sizes() {
    for (int size : new int[] {0, 1, 2, 61, 62, 63, 123, 124, 125, 300, 310, 372, 1000, 4464}) {
      Check check = Check.formatted();
      String bytes = Check.many(size);
      check.file("F", bytes);
      int blocks = Math.max(1, (size + 61) / 62);
      Check.due("blocks of " + size, "\"DISK      \" AB\r" + blocks + " \"F\" S\r" + (72 - blocks) + " FREE\r", check.list());
      check.open(2, "F");
      StringBuilder got = new StringBuilder();
      boolean ended = false;
      for (int i = 0; i < 20 && !ended; i++) {
        got.append(check.read(2, 299));
        ended = check.drive.look(3) == 1;
      }
      Check.due("file of " + size, bytes, got.toString());
      Check.due("its END", size == 0 ? 0 : 1, ended ? 1 : 0);
      Check.due("behind it", "", check.read(2, 300));
      Check.due("no END again", 0, check.drive.look(3));
      Check.due("no fault", "0 0 0", check.status());
      Check.due("open still", 1, check.drive.look(7));
    }
  }

  private static void writingAndClosing() {
    Check check = Check.formatted();
    Check.due("write to a closed channel", 61, check.write(2, "A"));
    check.open(2, "A,W");
    for (int i = 0; i < 130; i++) {
      Check.due("byte by byte", 0, check.write(2, Check.text(i)));
    }
    Check.due("read of one that writes", "", check.read(2, 10));
    Check.due("61", "61 0 0", check.status());
    Check.due("it stays open", 0, check.write(2, "Z"));
    Check.due("open of the same name", 63, check.open(3, "A,W"));
    Check.due("replacing what isn't closed", 60, check.open(3, "@A,W"));
    Check.due("reading what isn't closed", 60, check.open(3, "A"));
    Check.due("60 is ahead of 64", 60, check.open(3, "A,P"));
    Check.due("list", "\"DISK      \" AB\r0 \"A\" S*\r69 FREE\r", check.list());
    Check.due("open again closes it", 0, check.open(2, "A"));
    Check.due("closed", 131, check.drive.read(2, 300));
    Check.due("last", 'Z', check.drive.out(130));
    Check.due("write to one that reads", 61, check.write(2, "A"));
    check.open(3, "$");
    Check.due("write to one that lists", 61, check.write(3, "A"));
    Check.due("close of a closed one", 0, check.drive.close(9));
    Check.due("two open", 2, check.drive.look(7));
    check.drive.close(15);
    Check.due("none open", 0, check.drive.look(7));
  }

  private static void replacing() {
    Check check = Check.formatted();
    check.file("A", Check.many(200));
    check.file("B", "B");
    Check.due("@", 0, check.open(2, "@:A,P,W"));
    Check.due("list", "\"DISK      \" AB\r0 \"A\" P*\r1 \"B\" S\r70 FREE\r", check.list());
    check.write(2, "NEW");
    check.drive.close(2);
    check.open(2, "A");
    Check.due("new", "NEW", check.read(2, 300));
    Check.due("@ of a new name", 0, check.open(3, "@C,W"));
    check.drive.close(15);
    Check.due("list", "\"DISK      \" AB\r1 \"A\" P\r1 \"B\" S\r1 \"C\" S\r69 FREE\r", check.list());
  }

  private static void readingFaults() {
    Check check = Check.formatted();
    check.file("A", Check.many(200));
    check.open(2, "A");
    check.read(2, 62);
    check.poke(6, 3, 0, 13);
    check.poke(6, 3, 1, 99);
    Check.due("the next block isn't legal", Check.many(124).substring(62), check.read(2, 300));
    Check.due("71", "71 13 99", check.status());
    Check.due("closed", 0, check.drive.look(7));
    Check.due("no END", 0, check.drive.look(3));
    check.open(2, "A");
    check.drive.turn(6, 3 * 122 * 8 + 40, 1 << 31);
    Check.due("one byte less", Check.many(62), check.read(2, 62));
    Check.due("no fault yet", "0 0 0", check.status());
    Check.due("and then", "", check.read(2, 1));
    Check.due("20", "20 6 3", check.status());
    Check.due("closed", 0, check.drive.look(7));
    check.poke(7, 1, 4, 7);
    Check.due("first block not legal", "66 6 7", check.afterOpen(2, "A"));
    check.poke(7, 1, 4, 3);
    Check.due("first block not found", "20 6 3", check.afterOpen(2, "A"));
    Check.due("closed", 0, check.drive.look(7));
    // Last blocks whose byte 1 is odd.
    check = Check.formatted();
    check.file("A", "XYZ");
    int[][] rows = {{0, 0}, {1, 0}, {2, 1}, {63, 62}, {64, 62}, {255, 62}};
    for (int[] row : rows) {
      check.poke(6, 0, 1, row[0]);
      check.open(2, "A");
      Check.due("place " + row[0], row[1], check.drive.read(2, 300));
      Check.due("END", row[1] > 0 ? 1 : 0, check.drive.look(3));
      Check.due("then", 0, check.drive.read(2, 300));
    }
    // A chain that goes round never ends, but each read does.
    check.poke(6, 0, 0, 6);
    check.poke(6, 0, 1, 0);
    check.open(2, "A");
    Check.due("round", 300, check.drive.read(2, 300));
    Check.due("round", 300, check.drive.read(2, 300));
    // A full block and then one without a byte.
    check.file("B", Check.many(63));
    check.poke(6, 4, 1, 1);
    check.open(2, "B");
    Check.due("62", 62, check.drive.read(2, 62));
    Check.due("no END", 0, check.drive.look(3));
    Check.due("0", 0, check.drive.read(2, 62));
    Check.due("no END", 0, check.drive.look(3));
    Check.due("no fault", "0 0 0", check.status());
  }

  private static void closingFaults() {
    Check check = Check.formatted();
    check.open(2, "A,W");
    check.open(3, "B,W");
    check.drive.protect(true);
    Check.due("close", 26, check.drive.close(2));
    Check.due("told", "26 6 0", check.status());
    Check.due("closed all the same", 1, check.drive.look(7));
    Check.due("open of an open one", "26 6 1", check.afterOpen(3, "#"));
    Check.due("a fault ends it all", 0, check.drive.look(7));
    check.drive.protect(false);
    check.open(2, "C,W");
    check.open(3, "D,W");
    check.open(4, "E,W");
    check.drive.turn(6, 3 * 122 * 8 + 40, 1 << 31);
    Check.due("close of all", 20, check.drive.close(15));
    Check.due("told", "20 6 3", check.status());
    Check.due("all are closed", 0, check.drive.look(7));
    Check.due("list", "\"DISK      \" AB\r0 \"A\" S*\r0 \"B\" S*\r1 \"C\" S\r0 \"D\" S*\r0 \"E\" S*\r67 FREE\r", check.list());
    // Protected while a next block is wanted: the channel is closed, and bytes behind it are lost.
    check.open(2, "F,W");
    check.write(2, Check.many(62));
    check.drive.protect(true);
    Check.due("next block", 26, check.write(2, "XY"));
    Check.due("told", "26 7 0", check.status());
    Check.due("closed", 0, check.drive.look(7));
    Check.due("closed", 61, check.write(2, "XY"));
    Check.due("open to write", "26 7 0", check.afterOpen(2, "G,W"));
    // A file that is scratched while it is written.
    check = Check.formatted();
    check.open(2, "A,W");
    check.command("S:A");
    Check.due("close", 0, check.drive.close(2));
    Check.due("its type has the bit alone", 128, check.block(7, 1).charAt(2));
    Check.due("list", "\"DISK      \" AB\r1 \"A\" ?\r72 FREE\r", check.list());
  }

  private static void threeChannels() {
    Check check = Check.formatted();
    check.open(0, "#");
    check.open(7, "$");
    check.open(14, "#");
    Check.due("three", 3, check.drive.look(7));
    Check.due("a fourth", "70 0 0", check.afterOpen(3, "#"));
    Check.due("70 is ahead of syntax", "70 0 0", check.afterOpen(3, ""));
    Check.due("one of them again", "0 0 0", check.afterOpen(7, "#"));
    Check.due("one of them with a fault", "34 0 0", check.afterOpen(7, ""));
    Check.due("which is closed then", 2, check.drive.look(7));
    Check.due("so there is room", "0 0 0", check.afterOpen(3, "#"));
  }

  private static void buffers() {
    Check check = Check.formatted();
    check.open(2, "#");
    Check.due("zeros", "\0".repeat(64), check.read(2, 300));
    Check.due("END", 1, check.drive.look(3));
    Check.due("again", 63, check.drive.read(2, 63));
    Check.due("no END", 0, check.drive.look(3));
    Check.due("one more", 1, check.drive.read(2, 63));
    Check.due("END", 1, check.drive.look(3));
    check.write(2, Check.many(70));
    Check.due("goes round", Check.many(64).substring(6), check.read(2, 300));
    Check.due("then from 0", Check.many(70).substring(64) + Check.many(64).substring(6), check.read(2, 300));
    check.command("B-P:2,127");
    Check.due("the lowest six bits", 1, check.drive.read(2, 300));
    check.command("B-P:2,64");
    Check.due("place 0", 64, check.drive.read(2, 300));
    check.command("B-P:2,10");
    check.write(2, "HELLO");
    check.command("U2:2,12,4");
    Check.due("U2 leaves the place", 49, check.drive.read(2, 300));
    check.open(3, "#");
    check.write(3, "XYZ");
    Check.due("U1", "0 0 0", check.after("U1:3,12,4"));
    Check.due("U1 makes the place 0", 64, check.drive.read(3, 300));
    Check.due("HELLO", 'H', check.drive.out(10));
    check.open(2, "#");
    Check.due("a new one has zeros", "\0".repeat(64), check.read(2, 300));
  }

  private static void lists() {
    Check check = Check.formatted();
    check.file("AB", "1");
    check.file("AC", Check.many(700));
    check.file("TENLETTERS", "");
    String title = "\"DISK      \" AB\r";
    String all = "1 \"AB\" S\r12 \"AC\" S\r1 \"TENLETTERS\" S\r58 FREE\r";
    Check.due("$", title + all, check.list("$"));
    Check.due("$:", title + all, check.list("$:"));
    Check.due("$:A*", title + "1 \"AB\" S\r12 \"AC\" S\r58 FREE\r", check.list("$:A*"));
    Check.due("$:?C", title + "12 \"AC\" S\r58 FREE\r", check.list("$:?C"));
    Check.due("$:X", title + "58 FREE\r", check.list("$:X"));
    check.open(2, "$");
    Check.due("END", 1, check.drive.read(2, 300) > 0 ? check.drive.look(3) : 0);
    Check.due("nothing behind it", 0, check.drive.read(2, 300));
    Check.due("no END", 0, check.drive.look(3));
    check.poke(7, 1, 2, 4);
    check.poke(7, 1, 15, 255);
    check.poke(7, 1, 18, 255);
    check.poke(7, 1, 26, 65);
    check.poke(7, 0, 29, 160);
    check.poke(7, 0, 38, 0);
    Check.due("odd entries", "\"D SK      \" \0B\r255 \"AB\" ?*\r12 \"AC\" U\r1 \"TENLETTERS\" S\r58 FREE\r", check.list());
    check.poke(7, 0, 14, 255);
    check.poke(7, 0, 16, 200);
    check.poke(7, 0, 24, 255);
    check.poke(7, 0, 26, 255);
    check.poke(7, 0, 4, 255);
    String list = check.list("$:X");
    Check.due("sum without track 7", "\"D SK      \" \0B\r" + (58 + 255 - 0 + 255 - 5 + 255 - 5 + 255 - 8) + " FREE\r", list);
  }

  private static void listsLineByLine() {
    Check check = Check.formatted();
    check.file("A", "1");
    check.file("B", "1");
    check.open(3, "$");
    Check.due("title", 15, check.drive.read(3, 15));
    check.command("N:OTHER");
    Check.due("its last byte is of the line made", "\r", check.read(3, 1));
    check.file("C", "1");
    Check.due("entries are of now", "1 \"C\" S\r71", check.read(3, 10));
    check.file("D", "1");
    Check.due("free was made then", " FREE\r", check.read(3, 300));
    Check.due("END", 1, check.drive.look(3));
    check.open(3, "$");
    check.read(3, 16);
    check.drive.turn(7, 122 * 8 + 40, 1 << 31);
    Check.due("a fault", "", check.read(3, 10));
    Check.due("told", "20 7 1", check.status());
    Check.due("closes it", 0, check.drive.look(7));
    Check.due("then", "61 0 0", statusOfRead(check, 3));
    check = new Check();
    Check.due("open of a list reads nothing", "0 0 0", check.afterOpen(3, "$"));
    Check.due("its first byte does", "74 7 0", statusOfRead(check, 3));
  }

  private static String statusOfRead(Check check, int channel) {
    check.read(channel, 300);
    return check.status();
  }

  private static void patterns() {
    Check check = Check.formatted();
    check.file("A", "1");
    check.file("AB", "2");
    check.file("ABCDEFGHIJ", "3");
    String[][] rows = {
      {"A", "1"}, {"AB", "2"}, {"ABC", ""}, {"*", "1"}, {"A*", "1"}, {"AB*", "2"}, {"ABC*", "3"}, {"A*X", "1"}, {"?", "1"},
      {"??", "2"}, {"???", ""}, {"A?", "2"}, {"A?*", "2"}, {"A??*", "3"}, {"ABCDEFGHIJ", "3"}, {"??????????", "3"},
      {"ABCDEFGHI", ""}, {"ABCDEFGHI*", "3"}, {"B", ""}, {"B*", ""}, {"a", ""}, {"A\u00A0", "1"}, {"A\u00A0*", "1"},
      {"AB\u00A0\u00A0", "2"},
    };
    for (String[] row : rows) {
      Check.due(row[0], row[1].isEmpty() ? 62 : 0, check.open(2, row[0]));
      Check.due(row[0], row[1], check.read(2, 300));
    }
    // Wildcards in a NAME on the disk are just bytes.
    check.poke(7, 1, 5, '*');
    Check.due("Z", 62, check.open(2, "Z"));
    Check.due("?", 0, check.open(2, "?"));
  }

  /** A PATTERN may FIT a NAME that is another one: R asks for that, W for the same ten bytes. */
  private static void namesWithFillers() {
    Check check = Check.formatted();
    check.file("A\u00A0B", "1");
    Check.due("R: it fits", 0, check.open(3, "A"));
    Check.due("R", "1", check.read(3, 300));
    Check.due("W: another name", 0, check.open(2, "A,W"));
    Check.due("close", 0, check.drive.close(2));
    Check.due("two entries", "\"DISK      \" AB\r1 \"A\" S\r1 \"A\" S\r70 FREE\r", check.list());
    Check.due("W: the same", 63, check.open(2, "A\u00A0B,W"));
    Check.due("W: the same with its fillers told", 63, check.open(2, "A\u00A0B" + "\u00A0".repeat(7) + ",W"));
    Check.due("W: the same", 63, check.open(2, "A,W"));
    Check.due("W: the same with a filler told", 63, check.open(2, "A\u00A0,W"));
    Check.due("W: behind a filler another byte", 0, check.open(2, "A\u00A0C,W"));
    check.drive.close(2);
    // @ takes the one of that name, not the first one that fits.
    Check.due("@", 0, check.open(2, "@A,P,W"));
    check.drive.close(2);
    Check.due("the second one was replaced", "\"DISK      \" AB\r1 \"A\" S\r1 \"A\" P\r1 \"A\" S\r69 FREE\r", check.list());
    Check.due("all ten bytes count", 0, check.open(2, "A\u00A0\u00A0\u00A0\u00A0\u00A0\u00A0\u00A0\u00A0Z,W"));
    Check.due("60 of that name alone", 0, check.open(3, "@A,W"));
    check.drive.close(15);
    // A name of fillers alone, and one that begins with a filler.
    Check.due("fillers alone", 0, check.open(2, "\u00A0,W"));
    Check.due("begins with one", 0, check.open(3, "\u00A0A,W"));
    Check.due("the same", 63, check.open(4, "\u00A0\u00A0,W"));
    // An entry without TYPE has no name.
    check.drive.close(15);
    Check.due("S", 1, check.command("S:*"));
    Check.due("W of a name that is gone", 0, check.open(2, "A,W"));
  }
}
