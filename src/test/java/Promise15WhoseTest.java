/** Promise 15: whose. */
public final class Promise15WhoseTest {
    public static void main(String[] args) {
        howManyAndLeast();
        nobodys();
        leastNumber();
        asWritten();
        heardOnes();
        byItsAir();
        itsPlaceYearTone();
        unnamed();
        thereIsNone();
        anotherWhat();
        noSuch();
        Check.end();
    }

    private static void dueWhose(ClapValley valley, int land, int station, int i, int many, int least) {
        String call = "whose(" + land + ", " + station + ", " + i + ", ";
        Check.due(call + "0)", many, valley.whose(land, station, i, 0));
        Check.due(call + "1)", least, valley.whose(land, station, i, 1));
    }

    private static void howManyAndLeast() {
        Check.sentence("how many echoes (what 0), the least number (1; NONE)");
        ClapValley valley = Check.valleyOf("barn 6 9;upright 30 0 20 loss 95;upright 10 0 20;upright 2 0 20;");
        Check.write(valley, 6, 5, 0, 0, 16, 8, 9, 8);
        dueWhose(valley, 0, 0, 0, 1, 26);
        dueWhose(valley, 0, 0, 1, 3, 1);
        dueWhose(valley, 0, 0, 2, 0, -1);
        dueWhose(valley, 0, 0, 3, 3, 1);
    }

    private static void nobodys() {
        Check.sentence("the least number (1; NONE)");
        ClapValley valley = Check.valleyOf("barn 0 4;");
        Check.write(valley, 0, 0, 0, 0, 0, 7, 8, 9, 9999);
        for (int i = 0; i < 5; i++) {
            dueWhose(valley, 0, 0, i, i == 2 ? 1 : 0, i == 2 ? 8 : -1);
            dueWhose(valley, 1, 0, i, 0, -1);
        }
    }

    private static void leastNumber() {
        Check.sentence("numbers of HEARD echoes of that TICK at its PLACE: how many, the least number");
        // Walls 0 and 1 on both sides make 8 each, walls 2 and 3 likewise; barns all but the first are as far.
        ClapValley valley = Check.valleyOf("upright 0 0 9;upright 8 0 9;level 8 0 9;level 0 0 9;"
                + "barn 4 5;barn 4 8;barn 4 0;barn 8 4;barn 0 4;barn 4 8;");
        Check.write(valley, 4, 4, 0, 0, 8, 2, 16, 11);
        dueWhose(valley, 0, 0, 0, 9, 0);
        dueWhose(valley, 0, 0, 1, 1, 8);
        dueWhose(valley, 0, 0, 2, 2, 17);
        dueWhose(valley, 0, 0, 3, 4, 18);
        // A second echo and a barn's: the barn's number is the lesser.
        Check.tell(valley, 1, "upright 0 0 9;upright 8 0 9;barn 4 12;");
        dueWhose(valley, 1, 0, 2, 2, 8);
    }

    private static void asWritten() {
        Check.sentence("WHOSE the i-th TICK as written is");
        ClapValley valley = Check.valleyOf("barn 0 6;barn 0 5;barn 0 4;");
        Check.write(valley, 0, 0, 0, 0, 10, 8, 12);
        dueWhose(valley, 0, 0, 0, 1, 9);
        dueWhose(valley, 0, 0, 1, 1, 10);
        dueWhose(valley, 0, 0, 2, 1, 8);
        // As many as it can have.
        Check.write(valley, 0, 0, 0, 0, 1, 1, 1, 1, 1, 1, 1, 1, 1, 1, 1, 12);
        dueWhose(valley, 0, 1, 0, 0, -1);
        dueWhose(valley, 0, 1, 11, 1, 8);
        Check.dueNone(valley, "whose(0, 1, 12, 0)", () -> valley.whose(0, 1, 12, 0));
    }

    private static void heardOnes() {
        Check.sentence("numbers of HEARD echoes");
        ClapValley valley = Check.valleyOf("barn 6 9 loss 50;barn 10 5;hears 500;");
        Check.write(valley, 6, 5, 0, 0, 8);
        dueWhose(valley, 0, 0, 0, 2, 8);
        Check.tell(valley, 0, "barn 6 9 loss 50;barn 10 5;hears 501;");
        dueWhose(valley, 0, 0, 0, 1, 9);
    }

    private static void byItsAir() {
        Check.sentence("numbers of HEARD echoes of that TICK");
        ClapValley valley = Check.valleyOf("barn 0 4;barn 0 8;air 50;");
        Check.write(valley, 0, 0, 0, 0, 16);
        dueWhose(valley, 0, 0, 0, 1, 8);
        Check.tell(valley, 0, "barn 0 4;barn 0 8;");
        dueWhose(valley, 0, 0, 0, 1, 9);
        Check.tell(valley, 0, "barn 0 4;barn 0 8;barn 0 12;air 150;");
        dueWhose(valley, 0, 0, 0, 1, 10);
    }

    private static void itsPlaceYearTone() {
        Check.sentence("at its PLACE");
        ClapValley valley = Check.valleyOf("barn 0 4 years 3 3;wood 0 2 0 2 99 0 0;");
        Check.write(valley, 0, 0, 3, 1, 8);
        Check.write(valley, 0, 0, 3, 0, 8);
        Check.write(valley, 0, 0, 4, 1, 8);
        Check.write(valley, 0, 8, 3, 0, 8);
        dueWhose(valley, 0, 0, 0, 1, 8);
        dueWhose(valley, 0, 1, 0, 0, -1);
        dueWhose(valley, 0, 2, 0, 0, -1);
        dueWhose(valley, 0, 3, 0, 1, 8);
    }

    private static void unnamed() {
        Check.sentence("NoSuchElementException: also it is unnamed");
        ClapValley valley = new ClapValley();
        Check.write(valley, -1, -1, 0, 0, 5);
        Check.dueNone(valley, "whose(0, 0, 0, 0)", () -> valley.whose(0, 0, 0, 0));
        Check.dueNone(valley, "whose(0, 0, 0, 1)", () -> valley.whose(0, 0, 0, 1));
    }

    private static void thereIsNone() {
        Check.sentence("there is none");
        ClapValley valley = new ClapValley();
        Check.write(valley, 0, 0, 0, 0, 5, 6);
        Check.write(valley, 0, 0, 0, 0);
        dueWhose(valley, 0, 0, 0, 0, -1);
        dueWhose(valley, 0, 0, 1, 0, -1);
        for (int i : new int[] {-1, 2, 12, Check.FAR[0], Check.FAR[1], Check.FAR[2], Check.FAR[3]}) {
            Check.dueNone(valley, "whose(0, 0, " + i + ", 0)", () -> valley.whose(0, 0, i, 0));
            Check.dueNone(valley, "whose(0, 0, " + i + ", 1)", () -> valley.whose(0, 0, i, 1));
        }
        Check.dueNone(valley, "whose(0, 1, 0, 0) of no tick", () -> valley.whose(0, 1, 0, 0));
    }

    private static void anotherWhat() {
        Check.sentence("another what");
        ClapValley valley = new ClapValley();
        Check.write(valley, 0, 0, 0, 0, 5);
        for (int what : new int[] {-1, 2, Check.FAR[0], Check.FAR[1], Check.FAR[2], Check.FAR[3]}) {
            Check.dueNone(valley, "whose(0, 0, 0, " + what + ")", () -> valley.whose(0, 0, 0, what));
        }
    }

    private static void noSuch() {
        Check.sentence("no such LAND (as everywhere), no such STATION (as everywhere)");
        ClapValley valley = new ClapValley();
        Check.dueNone(valley, "whose(0, 0, 0, 0) of no station", () -> valley.whose(0, 0, 0, 0));
        Check.write(valley, 0, 0, 0, 0, 5);
        Check.due("whose(5, 0, 0, 0)", 0, valley.whose(5, 0, 0, 0));
        for (int land : new int[] {-1, 6, Check.FAR[0], Check.FAR[1], Check.FAR[2], Check.FAR[3]}) {
            Check.dueNone(valley, "whose(" + land + ", 0, 0, 0)", () -> valley.whose(land, 0, 0, 0));
        }
        for (int station : new int[] {-1, 1, 20, Check.FAR[0], Check.FAR[1], Check.FAR[2], Check.FAR[3]}) {
            Check.dueNone(valley, "whose(0, " + station + ", 0, 0)", () -> valley.whose(0, station, 0, 0));
        }
    }
}
