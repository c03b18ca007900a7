/** Numbers drawn by a fixed rule: the same seed always draws the same ones. */
final class Draw {
  private long state;

  Draw(long seed) {
    // Mixed twice, as seeds one apart would else draw the same numbers one place apart.
    state = seed * 0xD1342543DE82EF95L;
    state = (long) any() << 32 ^ any();
  }

  int any() {
    state += 0x9E3779B97F4A7C15L;
    long z = state;
    z = (z ^ z >>> 30) * 0xBF58476D1CE4E5B9L;
    z = (z ^ z >>> 27) * 0x94D049BB133111EBL;
    return (int) ((z ^ z >>> 31) >>> 16);
  }

  int below(int bound) {
    return Math.floorMod(any(), bound);
  }
}
