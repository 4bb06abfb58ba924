/** The edges that promise 2 names for refused and accepted calls; LineEdgesTest has the lines. */
public final class DropEdgesTest {
  private static final int GAMES = 300;
  // Enough to fill the board, and to go on for a while when it is full.
  private static final int CALLS = 150;

  private static final Numbers numbers = new Numbers();

  public static void main(String[] args) {
    everyWrongColumn();
    fullColumnIsRefused();
    otherwiseAccepted();
    theOrderOfTheCases();
    refusedCallChangesNothing();
    theSamePlayerIsStillToMove();
    placesTheStoneOnTop();
    growsByExactlyOne();
    theTurnPasses();
    otherStonesAndHeightsStay();
    fullBoardRefuses();
    Due.end();
  }

  private static void everyWrongColumn() {
    Due.sentence("If `col < 0` or `col > 6`, the answer is 0."
        + " This holds for every such `int`, including the smallest and the largest.");
    ConnectFour game = new ConnectFour();
    game.drop(0);
    game.drop(6);
    game.drop(6);
    Seen before = new Seen(game);
    Due.is("drop of the smallest int", game.drop(Integer.MIN_VALUE), 0);
    Due.is("drop of the largest int", game.drop(Integer.MAX_VALUE), 0);
    Due.is("drop(-1)", game.drop(-1), 0);
    Due.is("drop(7)", game.drop(7), 0);
    int wrong = 0;
    for (int col = Integer.MIN_VALUE; col < 0 && wrong < 9; col++) {
      wrong += isRefused(game, col) ? 0 : 1;
    }
    for (int col = Integer.MAX_VALUE; col > 6 && wrong < 9; col--) {
      wrong += isRefused(game, col) ? 0 : 1;
    }
    before.isStillSo("drop of every wrong int", game);
  }

  // Apart from Due.is, which would build a text for each of the ints.
  private static boolean isRefused(ConnectFour game, int col) {
    int answer = game.drop(col);
    if (answer == 0) {
      return true;
    }
    Due.is("drop(" + col + ")", answer, 0);
    return false;
  }

  private static void fullColumnIsRefused() {
    Due.sentence("Otherwise, if `height(col) == 6` (the column is full), the answer is 0.");
    for (int full = 0; full < 7; full++) {
      ConnectFour game = new ConnectFour();
      for (int row = 0; row < 6; row++) {
        game.drop(full);
      }
      // Whatever lies beside it, and whoever is to move.
      for (int calls = 0; calls < CALLS; calls++) {
        Due.is("drop(" + full + ") into the full column", game.drop(full), 0);
        game.drop(numbers.next(7));
      }
    }
  }

  private static void otherwiseAccepted() {
    Due.sentence("Otherwise the drop is accepted.");
    for (int i = 0; i < GAMES; i++) {
      ConnectFour game = new ConnectFour();
      for (int calls = 0; calls < CALLS; calls++) {
        int col = numbers.next(7);
        int height = game.height(col);
        int answer = game.drop(col);
        Due.holds("drop(" + col + ") at height " + height + " is accepted", answer != 0 || height == 6);
      }
    }
  }

  private static void theOrderOfTheCases() {
    Due.sentence("The cases are decided in this order:");
    // A wrong column is told as one whatever the heights of the real ones are:
    // no column full, one after another full, all full.
    ConnectFour game = new ConnectFour();
    for (int full = 0; full <= 7; full++) {
      for (int col : Columns.WRONG) {
        Due.is("drop(" + col + ") with " + full + " full columns", game.drop(col), 0);
      }
      for (int col = 0; col < full; col++) {
        Due.is("drop(" + col + ") with " + full + " full columns", game.drop(col), 0);
      }
      if (full < 7) {
        for (int row = 0; row < 6; row++) {
          Due.holds("drop(" + full + ") into row " + row, game.drop(full) != 0);
        }
      }
    }
  }

  private static void refusedCallChangesNothing() {
    Due.sentence("A refused call (answer 0) changes nothing: no stone is placed, no height changes,"
        + " `moves()` and `key()` answer as before");
    for (int i = 0; i < GAMES; i++) {
      ConnectFour game = new ConnectFour();
      for (int calls = 0; calls < CALLS; calls++) {
        refusedInThisState(game);
        game.drop(numbers.next(7));
      }
      refusedInThisState(game);
    }
  }

  private static void refusedInThisState(ConnectFour game) {
    Seen before = new Seen(game);
    for (int col : new int[] {-1, 7, Integer.MIN_VALUE, Integer.MAX_VALUE}) {
      Due.is("drop(" + col + ")", game.drop(col), 0);
      before.isStillSo("refused drop(" + col + ")", game);
    }
    for (int col = 0; col < 7; col++) {
      if (before.heights[col] == 6) {
        Due.is("drop(" + col + ") into a full column", game.drop(col), 0);
        before.isStillSo("refused drop(" + col + ") into a full column", game);
      }
    }
  }

  private static void theSamePlayerIsStillToMove() {
    Due.sentence("and the same player is still to move.");
    int[] refused = {-1, 7, Integer.MIN_VALUE, Integer.MAX_VALUE, 2};
    for (int col : refused) {
      for (int stones = 0; stones < 4; stones++) {
        ConnectFour game = new ConnectFour();
        for (int row = 0; row < 6; row++) {
          game.drop(2);
        }
        for (int k = 0; k < stones; k++) {
          game.drop(5);
        }
        int mover = stones % 2 == 0 ? 1 : 2;
        Due.is("drop(" + col + ")", game.drop(col), 0);
        game.drop(6);
        Due.is("refused drop(" + col + "), then drop(6): owner of the new stone",
            new Seen(game).stonesOf(mover) >> 42, 1);
      }
    }
  }

  private static void placesTheStoneOnTop() {
    Due.sentence("An accepted call places the mover's stone in cell (col, row),"
        + " where row is the value of `height(col)` before the call.");
    boolean[][] placed = new boolean[3][48];
    for (int i = 0; i < GAMES; i++) {
      ConnectFour game = new ConnectFour();
      for (int calls = 0; calls < CALLS; calls++) {
        Seen before = new Seen(game);
        int mover = before.moves % 2 == 0 ? 1 : 2;
        int col = numbers.next(7);
        int row = before.heights[col];
        if (game.drop(col) != 0) {
          placed[mover][col * 7 + row] = true;
          Due.is("the new stone after drop(" + col + ") at height " + row,
              new Seen(game).stonesOf(mover) - before.stonesOf(mover), 1L << (col * 7 + row));
        }
      }
    }
    for (int cell = 0; cell < 48; cell++) {
      boolean isCell = cell % 7 < 6;
      Due.holds("both players had a stone put in cell " + cell,
          placed[1][cell] == isCell && placed[2][cell] == isCell);
    }
  }

  private static void growsByExactlyOne() {
    Due.sentence("Then `height(col)` and `moves()` have each grown by exactly 1");
    for (int i = 0; i < GAMES; i++) {
      ConnectFour game = new ConnectFour();
      for (int calls = 0; calls < CALLS; calls++) {
        int col = numbers.next(7);
        int height = game.height(col);
        int moves = game.moves();
        if (game.drop(col) != 0) {
          Due.is("height(" + col + ") after an accepted drop", game.height(col), height + 1);
          Due.is("moves() after an accepted drop", game.moves(), moves + 1);
        }
      }
    }
  }

  private static void theTurnPasses() {
    Due.sentence("and the turn passes to the other player.");
    // All stones go into one column, then the next: owners alternate from the bottom up,
    // also where the drop before it made a line (the run ends in many lines).
    ConnectFour game = new ConnectFour();
    for (int i = 0; i < 42; i++) {
      game.drop(i / 6);
      long stone = 1L << (i / 6 * 7 + i % 6);
      int mover = i % 2 == 0 ? 1 : 2;
      Due.is("owner of stone " + (i + 1), new Seen(game).stonesOf(mover) & stone, stone);
    }
  }

  private static void otherStonesAndHeightsStay() {
    Due.sentence("Stones already on the board stay where they are and keep their owner,"
        + " and the heights of all other columns do not change.");
    for (int i = 0; i < GAMES; i++) {
      ConnectFour game = new ConnectFour();
      for (int calls = 0; calls < CALLS; calls++) {
        Seen before = new Seen(game);
        int col = numbers.next(7);
        game.drop(col);
        Seen after = new Seen(game);
        Due.is("first player's stones that left", before.first & ~after.first, 0);
        Due.is("second player's stones that left", before.second & ~after.second, 0);
        for (int other = 0; other < 7; other++) {
          if (other != col) {
            Due.is("height(" + other + ") after drop(" + col + ")",
                after.heights[other], before.heights[other]);
          }
        }
      }
    }
  }

  private static void fullBoardRefuses() {
    Due.sentence("When all 42 cells are filled, every column is full and every call of `drop` answers 0.");
    // Without a line, with one of the first player, with one of the second, with lines of both.
    String[] boards = {
        "663555551252401366446361441100221230400233",
        "350024124256305602106320152156544434113366",
        "424320411616144545222103230615656303605350",
        "000000111111222222333333444444555555666666"};
    for (String board : boards) {
      ConnectFour game = new ConnectFour();
      for (int i = 0; i < 42; i++) {
        Due.holds(board + ", drop " + (i + 1) + " is accepted", game.drop(board.charAt(i) - '0') != 0);
      }
      Seen full = new Seen(game);
      Due.is(board + ", the word of all stones", full.all, Seen.CELLS);
      for (int col = 0; col < 7; col++) {
        Due.is(board + ", full: height(" + col + ")", game.height(col), 6);
        Due.is(board + ", full: drop(" + col + ")", game.drop(col), 0);
        Due.is(board + ", full: drop(" + col + ") again", game.drop(col), 0);
      }
      for (int col : Columns.WRONG) {
        Due.is(board + ", full: drop(" + col + ")", game.drop(col), 0);
      }
      full.isStillSo(board + ", full and refused", game);
    }
  }
}
