/** Promises 1, 2, 7, 8, 9, 10, 11, 12, 13: what the host sees without a file. */
public final class HostTest {
  public static void main(String[] args) {
    Check.due("NONE", -1, RingDrive.NONE);
    Check.end();
  }
}
