/** Part 2 of the terms and promise 16: the first and the last slot in which each sort is open, and clouds. */
public final class OpenBoundsTest {
    private static final int MIN = Integer.MIN_VALUE, MAX = Integer.MAX_VALUE;
    /** In season 1 the cell 4 3 is in the shadow in slots 28 to 44, 3 4 in 0 to 18, 5 4 in 54 to 72, 0 8 never. */
    private static final String TOWER = "tower 4 4 4;";
    private static final String[] SORTS = {"dark", "sunny", "noon", "mass", "lamp"};
    private static final Due due = new Due();

    public static void main(String[] args) {
        slotsOfADay();
        darkInTheShadow();
        sunnyOutOfIt();
        noonFromThirtyToFortyTwo();
        massIsNoonAndSlotThirtySix();
        lampBelowTwelveAndAboveSixty();
        noneUnderACloud();
        eachShopIsABit();
        shopsMoreOpenAsToldOnes();
        due.end();
    }

    private static void slotsOfADay() {
        DialTown x = Due.of(TOWER + "shop sunny 0 8 1;");
        due.is("slot 0", x.open(0), 1);
        due.is("slot 72", x.open(72), 1);
        for (int slot : new int[] {-1, 73, MIN, MAX}) {
            due.is("slot " + slot, x.open(slot), Due.BAD);
        }
        due.is("no shops", Due.of(TOWER).open(36), 0);
    }

    /** "dark: its CELL is in THE SHADOW". */
    private static void darkInTheShadow() {
        isOpen("dark 4 3", 27, 0, 28, 1, 30, 1, 36, 1, 42, 1, 44, 1, 45, 0, 0, 0, 72, 0);
        isOpen("dark 3 4", 0, 1, 18, 1, 19, 0, 36, 0, 72, 0);
        isOpen("dark 5 4", 0, 0, 53, 0, 54, 1, 72, 1);
        isOpen("dark 0 8", 0, 0, 36, 0, 72, 0);
    }

    /** "sunny: it is not". */
    private static void sunnyOutOfIt() {
        isOpen("sunny 4 3", 27, 1, 28, 0, 30, 0, 36, 0, 42, 0, 44, 0, 45, 1, 0, 1, 72, 1);
        isOpen("sunny 3 4", 0, 0, 18, 0, 19, 1, 36, 1, 72, 1);
        isOpen("sunny 0 8", 0, 1, 11, 1, 12, 1, 36, 1, 60, 1, 61, 1, 72, 1);
    }

    /** "noon: dark, and 30 to 42". */
    private static void noonFromThirtyToFortyTwo() {
        isOpen("noon 4 3", 28, 0, 29, 0, 30, 1, 31, 1, 36, 1, 41, 1, 42, 1, 43, 0, 44, 0, 0, 0, 72, 0);
        isOpen("noon 3 4", 0, 0, 18, 0, 30, 0, 36, 0, 42, 0);
        isOpen("noon 0 8", 30, 0, 36, 0, 42, 0);
        // the cell 3 3 is in the shadow in slots 19 to 27, with a lean of one west in 28 to 44, too
        DialTown x = Due.of(TOWER + "shop noon 3 3 1;");
        due.is("not in the shadow", x.open(30), 0);
        x.lean(-1, 0);
        due.is("in the shadow as it leans", x.open(30), 1);
    }

    /** "mass: noon, or SLOT 36 in any case". */
    private static void massIsNoonAndSlotThirtySix() {
        isOpen("mass 4 3", 28, 0, 29, 0, 30, 1, 35, 1, 36, 1, 37, 1, 42, 1, 43, 0, 44, 0, 0, 0, 72, 0);
        isOpen("mass 3 4", 0, 0, 18, 0, 30, 0, 35, 0, 36, 1, 37, 0, 42, 0);
        isOpen("mass 0 8", 0, 0, 35, 0, 36, 1, 37, 0, 72, 0);
    }

    /** "lamp: sunny, and SLOTS below 12 or above 60". */
    private static void lampBelowTwelveAndAboveSixty() {
        isOpen("lamp 0 8", 0, 1, 11, 1, 12, 0, 13, 0, 36, 0, 59, 0, 60, 0, 61, 1, 72, 1);
        isOpen("lamp 3 4", 0, 0, 11, 0, 12, 0, 60, 0, 61, 1, 72, 1);
        isOpen("lamp 5 4", 0, 1, 11, 1, 12, 0, 60, 0, 61, 0, 72, 0);
    }

    private static void isOpen(String shop, int... slotsAndOpen) {
        DialTown x = Due.of(TOWER + "shop " + shop + " 1;");
        for (int k = 0; k < slotsAndOpen.length; k += 2) {
            due.is(shop + " in slot " + slotsAndOpen[k], x.open(slotsAndOpen[k]), slotsAndOpen[k + 1]);
        }
    }

    /** "In a SLOT with a CLOUD none is OPEN": of each sort, mass at noon too, and in that slot alone. */
    private static void noneUnderACloud() {
        int[] slots = {30, 0, 36, 36, 61};
        String[] cells = {"4 3", "0 8", "4 3", "0 8", "0 8"};
        for (int sort = 0; sort < SORTS.length; sort++) {
            DialTown x = Due.of(TOWER + "shop " + SORTS[sort] + " " + cells[sort] + " 1;");
            int ofTheDay = x.shop(0, 2);
            due.is(SORTS[sort] + " without a cloud", x.open(slots[sort]), 1);
            x.cloud(slots[sort], 1);
            due.is(SORTS[sort] + " under a cloud", x.open(slots[sort]), 0);
            due.is(SORTS[sort] + " one slot fewer", x.shop(0, 2), ofTheDay - 1);
            x.cloud(slots[sort], 0);
            due.is(SORTS[sort] + " without it again", x.open(slots[sort]), 1);
        }
        DialTown x = Due.of(TOWER + "shop sunny 0 8 1;");
        x.cloud(0, 1);
        x.cloud(72, 1);
        due.is("the first slot", x.open(0), 0);
        due.is("the second slot", x.open(1), 1);
        due.is("the last but one", x.open(71), 1);
        due.is("the last slot", x.open(72), 0);
    }

    /** "Sets are bits": shop 0 is bit 0, shop 7 is bit 7. */
    private static void eachShopIsABit() {
        StringBuilder text = new StringBuilder(TOWER);
        for (int shop = 0; shop < 8; shop++) {
            text.append("shop ").append(shop % 2 == 0 ? "sunny" : "noon").append(' ').append(shop).append(" 8 1;");
        }
        DialTown x = Due.of(text.toString());
        due.is("every second", x.open(36), 0b01010101);
        for (int shop = 7; shop >= 0; shop--) {
            x.undo();
            due.is(shop + " shops", x.open(36), 0b01010101 & (1 << shop) - 1);
        }
        for (int shop = 0; shop < 8; shop++) {
            x.more(3, 72 + shop, 1);
            due.is("masses up to " + shop, x.open(36), (2 << shop) - 1);
        }
        due.is("none of them ahead of noon", x.open(35), 0);
    }

    private static void shopsMoreOpenAsToldOnes() {
        for (int sort = 0; sort < SORTS.length; sort++) {
            DialTown told = Due.of(TOWER + "shop " + SORTS[sort] + " 4 3 1;");
            DialTown more = Due.of(TOWER);
            more.more(sort, 31, 1);
            for (int slot = 0; slot <= 72; slot++) {
                due.is(SORTS[sort] + " in slot " + slot, more.open(slot), told.open(slot));
            }
        }
    }
}
