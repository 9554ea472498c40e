/** Promises 1, 2, 7, 8, 12, 13, and what the calls of 3 to 6 refuse: the host's side. */
public final class HostTest {
  private static final int NONE = RingDrive.NONE;

  public static void main(String[] args) {
    Check.due("NONE", -1, RingDrive.NONE);
    aNewObject();
    feeding();
    refusals();
    refusedChangesNothing();
    tapeIsEmptyThen();
    outAndEnd();
    power();
    memory();
    Check.end();
  }

  private static void aNewObject() {
    RingDrive drive = new RingDrive();
    int[] want = {73, 0, 0, 0, 0, NONE, NONE, 0, 0, 0, 0, 0, 0, 0, 0};
    for (int what = 0; what < want.length; what++) {
      Check.due("look(" + what + ")", want[what], drive.look(what));
    }
    for (int what : new int[] {-1, 15, 16, Integer.MIN_VALUE, Integer.MAX_VALUE}) {
      Check.due("look(" + what + ")", NONE, drive.look(what));
    }
    for (int track = 1; track <= 12; track++) {
      for (int at = 0; at < 5120; at += 32) {
        Check.due("bits", 0, drive.bits(track, at));
      }
    }
    for (int at = 0; at < 2048; at++) {
      Check.due("memory", 0, drive.memory(at));
    }
    Check.due("out(0)", NONE, drive.out(0));
    Check check = new Check();
    check.open(2, "#");
    Check.due("not protected", "74 7 0", check.after("U2:2,1,0"));
  }

  private static void feeding() {
    Check check = new Check();
    for (int i = 1; i <= 20; i++) {
      Check.due("feed", 20 * i, check.drive.feed(0x01020304, -1, 0, 0x80FF7F00, 5));
      Check.due("look(4)", 20 * i, check.drive.look(4));
    }
    Check.due("feed of more than 400", NONE, check.drive.feed(1, 2, 3, 4, 5));
    Check.due("look(4)", 400, check.drive.look(4));
    check.drive.open(15, 0);
    check.open(2, "#");
    check.drive.feed(0x01020304, -1, 0, 0x80FF7F00, 0x0A0B0C0D);
    check.drive.write(2, 20);
    check.command("B-P:2,0");
    Check.due("the highest byte first",
        Check.text(1, 2, 3, 4, 255, 255, 255, 255, 0, 0, 0, 0, 128, 255, 127, 0, 10, 11, 12, 13), check.read(2, 20));
  }

  private static void refusals() {
    RingDrive drive = new RingDrive();
    drive.feed(0, 0, 0, 0, 0);
    int[] channels = {-1, 16, Integer.MIN_VALUE, Integer.MAX_VALUE};
    for (int c : channels) {
      Check.due("open", NONE, drive.open(c, 1));
      Check.due("write", NONE, drive.write(c, 1));
      Check.due("close", NONE, drive.close(c));
      Check.due("read", NONE, drive.read(c, 1));
    }
    for (int n : new int[] {-1, 21, Integer.MIN_VALUE, Integer.MAX_VALUE}) {
      Check.due("open", NONE, drive.open(15, n));
      Check.due("write", NONE, drive.write(2, n));
    }
    for (int n : new int[] {0, -1, 301, Integer.MIN_VALUE, Integer.MAX_VALUE}) {
      Check.due("read", NONE, drive.read(15, n));
      Check.due("read", NONE, drive.read(2, n));
    }
    Check.due("status", 73, drive.look(0));
    Check.due("tape", 20, drive.look(4));
    for (int i : new int[] {-1, 0, 300, Integer.MIN_VALUE, Integer.MAX_VALUE}) {
      Check.due("out", NONE, drive.out(i));
    }
  }

  private static void refusedChangesNothing() {
    Check check = new Check();
    Check.due("read", "73,", check.read(15, 3));
    check.drive.read(15, 301);
    check.drive.read(16, 1);
    check.drive.close(16);
    Check.due("out(0)", '7', check.drive.out(0));
    Check.due("out(2)", ',', check.drive.out(2));
    Check.due("out(3)", NONE, check.drive.out(3));
    Check.due("read", "RING", check.read(15, 4));
  }

  private static void tapeIsEmptyThen() {
    Check check = new Check();
    check.drive.feed(0, 0, 0, 0, 0);
    check.drive.open(15, 0);
    Check.due("open(15, 0) leaves the status", 73, check.drive.look(0));
    Check.due("tape", 0, check.drive.look(4));
    check.drive.feed(0, 0, 0, 0, 0);
    Check.due("write(15, 0) leaves the status", 73, check.drive.write(15, 0));
    Check.due("write(2, 0) leaves the status", 73, check.drive.write(2, 0));
    Check.due("write of a closed channel", 61, check.write(2, "A"));
    check.drive.feed(0x49490000, 0, 0, 0, 0);
    Check.due("one byte of the tape", 74, check.drive.open(15, 1));
    Check.due("tape", 0, check.drive.look(4));
  }

  private static void outAndEnd() {
    Check check = new Check();
    Check.due("read(15, 5)", 5, check.drive.read(15, 5));
    Check.due("not the END", 0, check.drive.look(3));
    Check.due("read(15, 300)", 15, check.drive.read(15, 300));
    Check.due("the END", 1, check.drive.look(3));
    Check.due("out(14)", 13, check.drive.out(14));
    Check.due("out(15)", NONE, check.drive.out(15));
    check.command("X");
    Check.due("commands leave OUT", 13, check.drive.out(14));
    Check.due("commands leave the END", 1, check.drive.look(3));
    Check.due("read of a closed channel", 0, check.drive.read(0, 300));
    Check.due("no END", 0, check.drive.look(3));
    Check.due("out(0)", NONE, check.drive.out(0));
    Check.due("status", "61 0 0", check.status());
  }

  private static void power() {
    Check check = Check.formatted();
    check.open(2, "A,W");
    check.open(3, "#");
    check.command("M-W" + Check.text(16, 0, 3, 0xA9, 7, 0));
    check.command("M-E" + Check.text(16, 0));
    check.read(15, 300);
    check.command("M-R" + Check.text(16, 0, 3));
    check.drive.feed(0x58000000, 0, 0, 0, 0);
    check.drive.power();
    int[] want = {73, 0, 0, 0, 20, NONE, NONE, 0, 0, 0, 0, 0, 0, 0, 0};
    for (int what = 0; what < want.length; what++) {
      Check.due("look(" + what + ") behind power()", want[what], check.drive.look(what));
    }
    Check.due("out(0)", NONE, check.drive.out(0));
    Check.due("memory", 0, check.drive.memory(16));
    Check.due("M-R is lost", "73,RING DOS 1,00,00\r", check.read(15, 300));
    Check.due("the tape stays", 31, check.drive.open(15, 1));
    Check.due("the disk stays", "\"DISK      \" AB\r0 \"A\" S*\r71 FREE\r", check.list());
    Check.due("the ID was taken", 'A', check.drive.look(5));
    Check.due("the ID was taken", 'B', check.drive.look(6));
  }

  private static void memory() {
    Check check = new Check();
    check.command("M-W" + Check.text(255, 7, 3, 11, 12, 13));
    Check.due("memory(2047)", 11, check.drive.memory(2047));
    Check.due("memory(0)", 12, check.drive.memory(0));
    Check.due("memory(1)", 13, check.drive.memory(1));
    for (int at : new int[] {-1, 2048, Integer.MIN_VALUE, Integer.MAX_VALUE}) {
      Check.due("memory(" + at + ")", NONE, check.drive.memory(at));
    }
  }
}
