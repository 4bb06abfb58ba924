/** The edges that the section "What it is" names. */
public final class WhatItIsTest {
  private static final int GAMES = 300;
  // Enough to fill the board, and to go on for a while when it is full.
  private static final int CALLS = 150;

  private static final Numbers numbers = new Numbers();

  public static void main(String[] args) {
    columnsAndRows();
    playGoesOnAfterAWin();
    noBitOutsideTheCells();
    moverByTheNumberOfMoves();
    everyCallReturns();
    Due.end();
  }

  private static void columnsAndRows() {
    Due.sentence("7 columns, numbered 0..6, each of 6 rows, numbered 0..5, with row 0 at the bottom");
    for (int col = -1; col <= 7; col++) {
      ConnectFour game = new ConnectFour();
      for (int row = 0; row <= 6; row++) {
        boolean isCell = col >= 0 && col <= 6 && row <= 5;
        long before = new Seen(game).all;
        String call = "drop(" + col + ") for row " + row;
        Due.is(call, game.drop(col), isCell ? 1 : 0);
        long cell = isCell ? 1L << (col * 7 + row) : 0;
        Due.is(call + ", the word of all stones", new Seen(game).all, before + cell);
      }
    }
  }

  private static void playGoesOnAfterAWin() {
    Due.sentence("Play does not stop after a win: drops go on until the columns are full.");
    String[] wins = {"0101010", "01213141"};
    for (String win : wins) {
      ConnectFour game = new ConnectFour();
      int answer = 0;
      for (int i = 0; i < win.length(); i++) {
        answer = game.drop(win.charAt(i) - '0');
      }
      Due.is(win + ", its last drop", answer, 2);
      for (int col = 0; col < 7; col++) {
        for (int row = game.height(col); row < 6; row++) {
          Due.holds(win + ", then drop(" + col + ") is accepted", game.drop(col) != 0);
          Due.is(win + ", then height(" + col + ")", game.height(col), row + 1);
        }
      }
      Due.is(win + ", then moves() of the full board", game.moves(), 42);
    }
  }

  private static void noBitOutsideTheCells() {
    Due.sentence("Bit `col*7 + 6` of every column stays 0 in every such word,"
        + " and so do all bits above bit 47, the cell (6, 5).");
    for (int i = 0; i < GAMES; i++) {
      ConnectFour game = new ConnectFour();
      for (int calls = 0; calls < CALLS; calls++) {
        // Full columns and those beside the board are tried as well.
        int col = numbers.next(9) - 1;
        game.drop(col);
        wordsAreOfCells("drop(" + col + ")", game);
      }
      for (int col = 0; col < 7; col++) {
        game.drop(col);
        wordsAreOfCells("full board, drop(" + col + ")", game);
      }
    }
  }

  private static void wordsAreOfCells(String after, ConnectFour game) {
    Seen seen = new Seen(game);
    Due.is(after + ", bits outside the cells, all stones", seen.all & ~Seen.CELLS, 0);
    Due.is(after + ", bits outside the cells, first player", seen.first & ~Seen.CELLS, 0);
    Due.is(after + ", bits outside the cells, second player", seen.second & ~Seen.CELLS, 0);
    Due.is(after + ", cells of both players", seen.first & seen.second, 0);
    Due.is(after + ", stones of the first player", Long.bitCount(seen.first), (seen.moves + 1) / 2);
    Due.is(after + ", stones of the second player", Long.bitCount(seen.second), seen.moves / 2);
  }

  private static void moverByTheNumberOfMoves() {
    Due.sentence("The *mover* of a drop is the first player when `moves()` is even before the drop,"
        + " and the second player when it is odd.");
    for (int i = 0; i < GAMES; i++) {
      ConnectFour game = new ConnectFour();
      for (int calls = 0; calls < CALLS; calls++) {
        Seen before = new Seen(game);
        int mover = before.moves % 2 == 0 ? 1 : 2;
        // Also a refused call has a mover, and must not make it another one.
        int col = numbers.next(9) - 1;
        boolean accepted = game.drop(col) != 0;
        Seen after = new Seen(game);
        String call = "drop(" + col + ") at moves() " + before.moves;
        Due.is(call + ", new stones of player " + mover,
            Long.bitCount(after.stonesOf(mover) & ~before.stonesOf(mover)), accepted ? 1 : 0);
        Due.is(call + ", stones of the other player",
            after.stonesOf(3 - mover), before.stonesOf(3 - mover));
      }
    }
  }

  /** A throw ends this test with a failure, and so does InTime if a call does not return. */
  private static void everyCallReturns() {
    Due.sentence("Nothing in this class ever throws, and every call returns,"
        + " for any argument values and in any state.");
    for (int i = 0; i < GAMES; i++) {
      ConnectFour game = new ConnectFour();
      for (int calls = 0; calls < CALLS; calls++) {
        everyArgument(game);
        game.drop((calls + numbers.next(3)) % 7);
      }
      Due.is("moves() of the full board", game.moves(), 42);
      for (int col = 0; col < 7; col++) {
        Due.is("full board, drop(" + col + ")", game.drop(col), 0);
      }
    }
  }

  private static void everyArgument(ConnectFour game) {
    Seen before = new Seen(game);
    for (int col : Columns.WRONG) {
      Due.is("drop(" + col + ")", game.drop(col), 0);
      Due.is("height(" + col + ")", game.height(col), -1);
    }
    before.isStillSo("drops and heights of wrong columns", game);
  }
}
