import com.sun.management.ThreadMXBean;
import java.lang.management.ManagementFactory;
import java.util.Random;

/** No call throws or makes objects, whatever its arguments and whatever the tape holds. */
public final class RobustTest {
  private static final Check check = new Check();

  private static final String[] TEXTS = {
    "fair 60;stall a at 4 turn 1 price 12 shut 50;stall b at 0 turn 2 price 10 shut 40;stall c at 9 turn 0 price 3 shut 60;"
        + "coin p width 5 hole 2;coin q width 9 hole 1;cloud 9 to 12;shade width*(turn+1)-hole+minute/2;"
        + "refuse long>price*4 or [hole=1 and not minute<20];bridge 30;gust 30;",
    "fair 10;", "first at 0=1 and width<hole", "total shade number+here", "most min(width,hole)*max(1,minute)",
    "fair 400;coin a width 1 hole 1;shade ((((((1))))));refuse not not not not not not all;",
  };

  public static void main(String[] args) {
    ThreadMXBean threads = (ThreadMXBean) ManagementFactory.getThreadMXBean();
    long id = Thread.currentThread().getId();
    Random r = new Random(7);
    byte[][] texts = new byte[TEXTS.length][];
    for (int k = 0; k < TEXTS.length; k++) {
      texts[k] = TEXTS[k].getBytes(java.nio.charset.StandardCharsets.ISO_8859_1);
    }
    long made = Long.MAX_VALUE;
    for (int run = 0; run < 400; run++) {
      ShadowCoins x = new ShadowCoins();
      long before = threads.getThreadAllocatedBytes(id);
      for (int n = 0; n < 512; n++) {
        call(x, r, texts);
      }
      made = Math.min(made, threads.getThreadAllocatedBytes(id) - before);
    }
    check.due("bytes made by 512 calls, if more than the measuring itself: " + made, made < 1000, true);
    check.finish();
  }

  private static int any(Random r) {
    switch (r.nextInt(12)) {
      case 0: return r.nextInt();
      case 1: return Integer.MAX_VALUE;
      case 2: return Integer.MIN_VALUE;
      case 3: return -1;
      case 4: return r.nextInt(420);
      default: return r.nextInt(7);
    }
  }

  private static byte[] text;

  private static int four(Random r, int at) {
    int number = 0;
    for (int k = at; k < at + 4; k++) {
      number = number << 8 | (k < text.length ? text[k] & 255 : 32);
    }
    return r.nextInt(200) == 0 ? number ^ 1 << r.nextInt(31) : number;
  }

  private static void tell(ShadowCoins x, Random r, byte[][] texts) {
    text = texts[r.nextInt(texts.length)];
    int length = r.nextInt(20) == 0 ? r.nextInt(text.length) : text.length;
    x.end(0);
    for (int at = 0; at < length; at += 20) {
      x.feed(four(r, at), four(r, at + 4), four(r, at + 8), four(r, at + 12), four(r, at + 16));
    }
    x.end(length);
    if (r.nextInt(3) > 0) {
      x.fair();
    } else {
      x.ask();
    }
  }

  private static void call(ShadowCoins x, Random r, byte[][] texts) {
    int a = any(r);
    int b = any(r);
    int c = any(r);
    switch (r.nextInt(34)) {
      case 0: x.feed(a, b, c, any(r), any(r)); break;
      case 1: x.end(a); break;
      case 2: case 3: tell(x, r, texts); break;
      case 4: x.fault(a); break;
      case 5: x.has(a); break;
      case 6: x.letter(a, b, c); break;
      case 7: x.stall(a, b); break;
      case 8: x.coin(a, b); break;
      case 9: x.shadow(a, b, c); break;
      case 10: x.buys(a, b, c); break;
      case 11: x.kept(a, b); break;
      case 12: x.when(a, b, c); break;
      case 13: x.round(a, b); break;
      case 14: x.blocked(a); break;
      case 15: x.strike(a, b); break;
      case 16: x.handy(a); break;
      case 17: x.odd(a, b, c); break;
      case 18: x.bridge(a, b); break;
      case 19: x.change(a, b, c); break;
      case 20: x.chalked(a, b, c); break;
      case 21: x.see(); break;
      case 22: x.minutes(a); break;
      case 23: x.lamps(a); break;
      case 24: x.walk(a); break;
      case 25: x.pause(a); break;
      case 26: x.buy(a, b); break;
      case 27: x.chance(a); break;
      case 28: x.undo(); break;
      case 29: x.seed(a); break;
      case 30: x.ask(); break;
      case 31: x.octet(x.image() - 1 - (a & 7)); break;
      case 32: x.on(); break;
      default: x.status(a);
    }
  }
}
