/** Disks and directories that are full, and the order in which blocks are taken (promises 3 to 5). */
public final class FullTest {
  public static void main(String[] args) {
    order();
    nextOfTheSameTrack();
    fullWhileWriting();
    fullWhileWritingWithFaults();
    fullAtOpen();
    directoryGrows();
    directoryIsFull();
    noBlockForTheDirectory();
    Check.end();
  }

  /** The blocks of a file of a whole disk, by its chain. */
  private static void order() {
    Check check = Check.formatted();
    check.file("ALL", Check.many(72 * 62));
    String got = "";
    int t = check.block(7, 1).charAt(3);
    int s = check.block(7, 1).charAt(4);
    for (int i = 0; i < 72 && t != 0; i++) {
      got += " " + t + "." + s;
      String block = check.block(t, s);
      t = block.charAt(0);
      s = block.charAt(1);
    }
    StringBuilder want = new StringBuilder();
    int[] sectors = {8, 8, 8, 7, 7, 7, 6, 6, 6, 5, 5, 5};
    for (int track : new int[] {6, 8, 5, 9, 4, 10, 3, 11, 2, 12, 1}) {
      boolean[] taken = new boolean[8];
      int at = -3;
      for (int i = 0; i < sectors[track - 1]; i++) {
        at = i == 0 ? 0 : (at + 3) % sectors[track - 1];
        while (taken[at]) {
          at = (at + 1) % sectors[track - 1];
        }
        taken[at] = true;
        want.append(" ").append(track).append(".").append(at);
      }
    }
    Check.due("order", want.toString(), got);
    Check.due("list", "\"DISK      \" AB\r72 \"ALL\" S\r0 FREE\r", check.list());
    Check.due("none is left", "72 0 0", check.afterOpen(2, "B,W"));
    Check.due("S", "1 1 0", check.after("S:ALL"));
    Check.due("list", "\"DISK      \" AB\r72 FREE\r", check.list());
  }

  private static void nextOfTheSameTrack() {
    Check check = Check.formatted();
    check.poke(7, 0, 14, 0); // track 6 tells that none is free
    check.file("A", Check.many(100));
    Check.due("track 8", Check.text(8, 3) + Check.many(62), check.block(8, 0));
    check.open(2, "B,W");
    check.poke(7, 0, 18, 0); // so does track 8 now
    check.write(2, Check.many(100));
    Check.due("track 5", Check.text(5, 0) + Check.many(62), check.block(8, 1));
  }

  private static void fullWhileWriting() {
    Check check = Check.formatted();
    check.file("A", Check.many(62 * 68));
    check.open(2, "B,S,W");
    check.open(3, "C,S,W");
    Check.due("three blocks", 0, check.write(2, Check.many(62 * 3)));
    Check.due("one more", "72 0 0", afterWrite(check, 2, "XYZ"));
    Check.due("closed", 1, check.drive.look(7));
    Check.due("its blocks and entry are gone", "\"DISK      \" AB\r68 \"A\" S\r0 \"C\" S*\r3 FREE\r", check.list());
    Check.due("now there is room", 0, check.write(3, Check.many(62 * 4)));
    Check.due("and now none", "72 0 0", afterWrite(check, 3, Check.many(300)));
    Check.due("list", "\"DISK      \" AB\r68 \"A\" S\r4 FREE\r", check.list());
    Check.due("closed", "61 0 0", afterWrite(check, 3, "X"));
    Check.due("V finds nothing else", "0 0 0", check.after("V"));
    Check.due("list", "\"DISK      \" AB\r68 \"A\" S\r4 FREE\r", check.list());
    // A file of one block alone.
    check.file("B", Check.many(62 * 3));
    check.open(2, "C,W");
    check.write(2, Check.many(62));
    Check.due("one block", "72 0 0", afterWrite(check, 2, "X"));
    Check.due("list", "\"DISK      \" AB\r68 \"A\" S\r3 \"B\" S\r1 FREE\r", check.list());
  }

  private static String afterWrite(Check check, int channel, String bytes) {
    check.write(channel, bytes);
    return check.status();
  }

  private static void fullWhileWritingWithFaults() {
    for (int way = 0; way < 4; way++) {
      Check check = Check.formatted();
      check.file("A", Check.many(62 * 69));
      check.open(2, "B,S,W");
      check.write(2, Check.many(62 * 3));
      int t = check.block(7, 1).charAt(19);
      int s = check.block(7, 1).charAt(20);
      int next = check.block(t, s).charAt(1);
      String want;
      switch (way) {
        case 0:
          check.poke(t, s, 0, 0);
          check.poke(t, s, 1, 9);
          want = "71 0 9";
          break;
        case 1:
          check.poke(t, s, 1, s);
          want = "71 " + t + " " + s;
          break;
        case 2:
          check.drive.turn(t, next * 122 * 8 + 40, 1 << 31);
          want = "20 " + t + " " + next;
          break;
        default:
          check.drive.protect(true);
          want = "26 7 0";
          break;
      }
      Check.due("way " + way, want, afterWrite(check, 2, "X"));
      Check.due("closed", 0, check.drive.look(7));
      Check.due("the map isn't stored, the entry stays", "\"DISK      \" AB\r69 \"A\" S\r0 \"B\" S*\r0 FREE\r", check.list());
    }
  }

  private static void fullAtOpen() {
    Check check = Check.formatted();
    check.file("A", Check.many(62 * 72));
    Check.due("72", "72 0 0", check.afterOpen(2, "B,W"));
    Check.due("not open", 0, check.drive.look(7));
    Check.due("@ gives room", "0 0 0", check.afterOpen(2, "@A,W"));
    Check.due("list", "\"DISK      \" AB\r0 \"A\" S*\r71 FREE\r", check.list());
  }

  private static void directoryGrows() {
    Check check = Check.formatted();
    for (int i = 0; i < 5; i++) {
      check.file("F" + i, "");
    }
    Check.due("7, 1", Check.text(7, 2), check.block(7, 1).substring(0, 2));
    Check.due("7, 2", Check.text(0, 255, 129, 8, 0) + "F4" + "\u00A0".repeat(8) + "\1" + "\0".repeat(48),
        check.block(7, 2).replace(Check.text(129, 6, 4), Check.text(129, 8, 0)));
    Check.due("track 7", Check.text(3, 56), check.block(7, 0).substring(16, 18));
    Check.due("list", "\"DISK      \" AB\r1 \"F0\" S\r1 \"F1\" S\r1 \"F2\" S\r1 \"F3\" S\r1 \"F4\" S\r67 FREE\r", check.list());
    check.open(2, "F4");
    Check.due("one of the second block", "0 0 0", check.status());
    check.command("S:F2");
    check.file("NEW", "");
    Check.due("the first room", "1 \"NEW\" S\r", check.list().substring(34, 44));
    // The chain ends where byte 0 is 0, whatever byte 1 is.
    check.poke(7, 2, 1, 3);
    Check.due("end", "62 0 0", check.afterOpen(2, "X"));
  }

  private static void directoryIsFull() {
    Check check = Check.formatted();
    String want = "\"DISK      \" AB\r";
    for (int i = 0; i < 20; i++) {
      check.file("F" + i, "");
      want += "1 \"F" + i + "\" S\r";
    }
    // Track 7 has four blocks more than the map and the first one: five blocks in all, twenty entries.
    Check.due("no block of track 7 is left", "72 0 0", check.afterOpen(2, "X,W"));
    Check.due("list", want + "52 FREE\r", check.list());
    // A sixth one that lies on another track.
    check.command("B-A:12,4");
    check.setBlock(12, 4, Check.text(0, 255) + "\0".repeat(62));
    String last = check.block(7, 5);
    check.setBlock(7, 5, Check.text(12, 4) + last.substring(2));
    for (int i = 20; i < 24; i++) {
      check.file("F" + i, "");
      want += "1 \"F" + i + "\" S\r";
    }
    Check.due("six are there", "72 0 0", check.afterOpen(2, "X,W"));
    check.open(14, "$");
    Check.due("list", want + "47 FREE\r", check.read(14, 300));
    check.command("B-F:7,5");
    Check.due("six are there, though one could be taken", "72 0 0", check.afterOpen(2, "X,W"));
    check.poke(12, 4, 0, 99);
    Check.due("a seventh isn't looked at", "72 0 0", check.afterOpen(2, "X,W"));
    Check.due("a seventh isn't looked at", "62 0 0", check.afterOpen(2, "X"));
    check.command("B-A:7,5");
    Check.due("nor by V", "0 0 0", check.after("V"));
    Check.due("list", "47 FREE\r", check.list("$:X").substring(16));
  }

  private static void noBlockForTheDirectory() {
    Check check = Check.formatted();
    for (int i = 0; i < 4; i++) {
      check.file("F" + i, "");
    }
    check.poke(7, 0, 16, 0);
    Check.due("byte 0 tells that none is free", "72 0 0", check.afterOpen(2, "X,W"));
    check.poke(7, 0, 16, 1);
    Check.due("and 1 that one is", "0 0 0", check.afterOpen(2, "X,W"));
    Check.due("track 7", Check.text(0, 56), check.block(7, 0).substring(16, 18));
    check = Check.formatted();
    for (int i = 0; i < 4; i++) {
      check.file("F" + i, "");
    }
    check.file("ALL", Check.many(62 * 68));
    Check.due("the entry's block is there, but none for the file", "72 0 0", check.afterOpen(2, "X,W"));
    check.command("S:ALL");
    Check.due("and it stays", Check.text(7, 2), check.block(7, 1).substring(0, 2));
  }
}
