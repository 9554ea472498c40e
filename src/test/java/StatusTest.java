/** Channel 15: the STATUS and its words, when it becomes 0 0 0, and the bytes of M-R (promises 3 to 6, 8). */
public final class StatusTest {
  public static void main(String[] args) {
    words();
    reading();
    becomesClean();
    moreThanForty();
    replies();
    repliesAreLost();
    Check.end();
  }

  private static void spelled(Check check, String want) {
    Check.due("status", want + "\r", check.read(15, 300));
    Check.due("and then", "0 0 0", check.status());
    Check.due("and then", "00,OK,00,00\r", check.read(15, 300));
  }

  private static void words() {
    Check check = Check.formatted();
    check.command("X");
    spelled(check, "31,SYNTAX ERROR,00,00");
    check.command("N");
    spelled(check, "30,SYNTAX ERROR,00,00");
    check.command("N:*");
    spelled(check, "33,SYNTAX ERROR,00,00");
    check.open(2, "");
    spelled(check, "34,SYNTAX ERROR,00,00");
    check.open(2, "A,W");
    check.open(3, "A");
    spelled(check, "60,FILE OPEN,00,00");
    check.read(2, 1);
    spelled(check, "61,FILE NOT OPEN,00,00");
    check.open(3, "B");
    spelled(check, "62,FILE NOT FOUND,00,00");
    check.open(3, "A,W");
    spelled(check, "63,FILE EXISTS,00,00");
    check.drive.close(2);
    check.open(3, "A,P,R");
    spelled(check, "64,FILE TYPE MISMATCH,00,00");
    check.command("B-A:6,0");
    spelled(check, "65,NO BLOCK,06,01");
    check.command("B-A:7,6");
    spelled(check, "66,ILLEGAL BLOCK,07,06");
    check.command("B-A:255,123");
    spelled(check, "66,ILLEGAL BLOCK,55,23");
    check.command("B-P:2,0");
    spelled(check, "70,NO CHANNEL,00,00");
    check.command("S:A");
    spelled(check, "01,FILES SCRATCHED,01,00");
    check.poke(7, 1, 0, 13);
    check.open(3, "A");
    spelled(check, "71,DIR ERROR,13,255".replace("255", "55"));
    check.command("UI");
    spelled(check, "73,RING DOS 1,00,00");
    check.command("M-E" + Check.text(0, 0));
    spelled(check, "00,OK,00,00");
    check.command("M-W" + Check.text(0, 0, 1, 2));
    check.command("M-E" + Check.text(0, 0));
    spelled(check, "28,PROGRAM ERROR,01,00");
    check.drive.protect(true);
    check.command("N:A,BC");
    spelled(check, "26,WRITE PROTECT ON,12,00");
    check.drive.turn(7, 40, -1);
    check.command("B-F:1,1");
    spelled(check, "20,READ ERROR,07,00");
    check = new Check();
    check.command("I");
    spelled(check, "74,DRIVE NOT READY,07,00");
  }

  private static void reading() {
    Check check = new Check();
    Check.due("part", "73,RI", check.read(15, 5));
    Check.due("part", "NG DOS 1,", check.read(15, 9));
    Check.due("still 73", 73, check.drive.look(0));
    check.command("X");
    Check.due("another one from its begin", "31,", check.read(15, 3));
    check.command("X");
    Check.due("another one from its begin", "31,SYNTAX ERROR,00,00\r", check.read(15, 22));
    Check.due("END", 1, check.drive.look(3));
    Check.due("clean", 0, check.drive.look(0));
    Check.due("part", "00,OK,00,00", check.read(15, 11));
    Check.due("no END", 0, check.drive.look(3));
    Check.due("rest", "\r", check.read(15, 11));
    Check.due("END", 1, check.drive.look(3));
  }

  private static void becomesClean() {
    Check check = Check.formatted();
    check.command("X");
    Check.due("by open", 0, check.open(2, "#"));
    check.command("X");
    Check.due("by close", 0, check.drive.close(9));
    check.command("X");
    check.read(2, 1);
    Check.due("by read", "0 0 0", check.status());
    check.command("X");
    Check.due("by write", 0, check.write(2, "A"));
    check.command("X");
    Check.due("by a command", 0, check.write(15, "B-P:2,3"));
    check.command("X");
    Check.due("by close of 15", 0, check.drive.close(15));
    check.command("X");
    Check.due("not without a byte", 31, check.open(15, ""));
    Check.due("not without a byte", 31, check.write(15, ""));
    Check.due("not without a byte", 31, check.write(2, ""));
  }

  private static void moreThanForty() {
    Check check = Check.formatted();
    check.open(2, "A,W");
    Check.due("open with 41 bytes", 32, check.open(2, "#".repeat(41)));
    Check.due("ahead of closing it", 1, check.drive.look(7));
    Check.due("command of 41 bytes", 32, check.open(15, "X".repeat(41)));
    Check.due("command of 41 bytes", 32, check.write(15, "X".repeat(41)));
    Check.due("command of 40 bytes", 31, check.write(15, "X".repeat(40)));
    Check.due("open with 40 bytes", 30, check.open(3, "X".repeat(40)));
    Check.due("bytes of a file", 0, check.write(2, "X".repeat(41)));
  }

  private static void replies() {
    Check check = new Check();
    check.command("M-W" + Check.text(254, 7, 5, 1, 13, 3, 4, 5));
    Check.due("M-R", 0, check.command("M-R" + Check.text(254, 7, 5)));
    Check.due("part", Check.text(1, 13), check.read(15, 2));
    Check.due("no END", 0, check.drive.look(3));
    Check.due("rest", Check.text(3, 4, 5), check.read(15, 20));
    Check.due("END", 1, check.drive.look(3));
    Check.due("status again", "00,OK,00,00\r", check.read(15, 20));
    Check.due("M-R of 32", 0, check.command("M-R" + Check.text(254, 255, 32)));
    Check.due("32 bytes", Check.text(1, 13, 3, 4, 5) + "\0".repeat(27), check.read(15, 300));
    Check.due("M-R of 33", "32 0 0", check.after("M-R" + Check.text(0, 0, 33)));
    Check.due("nothing comes", "32,SYNTAX ERROR,00,00\r", check.read(15, 300));
    Check.due("M-R of 0", "0 0 0", check.after("M-R" + Check.text(0, 0, 0)));
    Check.due("nothing comes", "00,OK,00,00\r", check.read(15, 300));
    Check.due("M-R of what is missing", "0 0 0", check.after("M-R" + Check.text(0)));
    Check.due("nothing comes", "00,OK,00,00\r", check.read(15, 300));
    Check.due("M-W of 3, one came", 0, check.command("M-W" + Check.text(0, 3, 3, 9)));
    Check.due("it", 9, check.drive.memory(768));
    Check.due("M-W of 1, two came", 0, check.command("M-W" + Check.text(0, 3, 1, 8, 7)));
    Check.due("it", 8, check.drive.memory(768));
    Check.due("not the other", 0, check.drive.memory(769));
    Check.due("M-W of 34", 0, check.command("M-W" + Check.text(0, 2, 34) + "Z".repeat(34)));
    Check.due("the last one", 'Z', check.drive.memory(512 + 33));
    Check.due("none behind it", 0, check.drive.memory(512 + 34));
    Check.due("M-W of nothing", 0, check.command("M-W"));
    for (String text : new String[] {"M", "M-", "M-X", "MW", "M W"}) {
      Check.due(text, 31, check.command(text));
    }
  }

  private static void repliesAreLost() {
    for (int way = 0; way < 6; way++) {
      Check check = new Check();
      check.command("M-W" + Check.text(0, 0, 3, 1, 2, 3));
      check.open(2, "#");
      check.command("M-R" + Check.text(0, 0, 3));
      check.read(15, 1);
      switch (way) {
        case 0: check.open(3, "#"); break;
        case 1: check.drive.close(7); break;
        case 2: check.read(2, 1); break;
        case 3: check.command("B-P:2,0"); break;
        case 4: check.read(5, 1); break;
        default: break;
      }
      String want = way == 4 ? "61,FILE NOT OPEN,00,00\r" : way < 4 ? "00,OK,00,00\r" : Check.text(2, 3);
      Check.due("way " + way, want, check.read(15, 300));
    }
  }
}
