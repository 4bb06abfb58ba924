/** A fixed sequence of numbers: every run of a test gets the same ones. */
final class Numbers {
  private long state = 1;

  int next(int bound) {
    state = state * 6364136223846793005L + 1442695040888963407L;
    return (int) ((state >>> 33) % bound);
  }
}
