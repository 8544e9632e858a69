"""Requests by chance, of several kinds: mix, churn, room, tree, deep, parse, explain, count."""
import random
from model import *
rnd=random.Random()
NAMES=[b'a',b'b',b'c',b'0',b'1',b'x\xc3\xa9',b'dd',b'']
def nm(): return rnd.choice(NAMES[:5]) if rnd.random()<.95 else rnd.choice(NAMES)
def text():
    return rnd.choice([b'',b'a',b'b',b'ab',b'\0',b'z\0y',b'\xe2\x82\xac',b'$a',b'$a.b',b'long text that goes on'])
def scalar():
    r=rnd.random()
    if r<.4: return El(I,rnd.choice([0,1,2,3,-1,5,2**31-1,-2**31]) if rnd.random()<.3 else rnd.randrange(4))
    if r<.55: return El(L,rnd.choice([0,1,2,3,-1,2**63-1,-2**63,2**31,2**40]))
    if r<.65: return El(B,rnd.randrange(2))
    if r<.75: return El(N,None)
    return El(T,text())
def val(dp=0):
    r=rnd.random()
    if dp<4 and r<.18: return mkdoc(dp+1)
    if dp<4 and r<.36: return row(dp+1)
    return scalar()
def row(dp=0): return El(R,[val(dp) for _ in range(rnd.randrange(4))])
def mkdoc(dp=0,n=None):
    n=rnd.randrange(4) if n is None else n
    out=[];seen=set()
    for _ in range(n):
        k=nm()
        if k in seen: continue
        seen.add(k); out.append(with_name(val(dp),k))
    return El(D,out)
def pth(bad=.02):
    r=rnd.random()
    if r<bad: return rnd.choice([b'',b'a.',b'.a',b'a..b',b'a.$b',b'$a',b'a.b.c.a.b.c.a.b.c'])
    n=rnd.choice([1,1,1,2,2,3,4]) if rnd.random()<.97 else 8
    return b'.'.join(rnd.choice([b'a',b'b',b'c',b'0',b'1',b'a',b'b',b'01']) for _ in range(n))
def uniq(els):
    out=[];s=set()
    for e in els:
        if e.name in s: continue
        s.add(e.name); out.append(e)
    return out
def condv(n,dp):
    if rnd.random()<.03: return val()
    if n in (b'$in',b'$nin'): return El(R,[val(2) for _ in range(rnd.randrange(4))])
    if n==b'$exists': return El(B,rnd.randrange(2))
    if n==b'$size': return El(rnd.choice([I,L]),rnd.randrange(4))
    if n==b'$elem': return conds(dp+1) if rnd.random()<.6 else filt(dp+1)
    if n==b'$not': return conds(dp+1)
    return val(2)
def conds(dp=0):
    els=[]
    for _ in range(rnd.choice([1,1,2,3])):
        n=rnd.choice(COND) if rnd.random()<.985 else rnd.choice([b'$and',b'$foo',b'a',b'$'])
        if dp>3 and n in (b'$elem',b'$not'): n=b'$eq'
        els.append(with_name(condv(n,dp),n))
    return El(D,uniq(els))
def filt(dp=0):
    els=[]
    for _ in range(rnd.choice([0,1,1,1,2,2,3])):
        r=rnd.random()
        if r<.2 and dp<4:
            n=rnd.choice(LOGIC)
            v=El(R,[filt(dp+1) for _ in range(rnd.choice([1,1,2,3]))])
            if rnd.random()<.02: v=rnd.choice([El(R,[]),El(R,[mkdoc(),val()]),val()])
            els.append(with_name(v,n))
        elif r<.6: els.append(with_name(conds(dp),pth()))
        elif r<.61: els.append(with_name(val(),rnd.choice([b'$foo',b'$eq'])))
        else: els.append(with_name(val(2),pth()))
    return El(D,uniq(els))
def change():
    els=[]
    for _ in range(rnd.choice([1,1,1,2,2,3])):
        n=rnd.choice(OPS) if rnd.random()<.98 else rnd.choice([b'$foo',b'a'])
        ps=[]
        for _ in range(rnd.choice([0,1,1,1,2,3])):
            v=val(1)
            if n==b'$inc' and rnd.random()<.95: v=El(rnd.choice([I,L]),rnd.choice([0,1,-1,2**31-1,2**31-1,1,1])) if rnd.random()<.8 else El(L,rnd.choice([2**63-1,-2**63,5]))
            ps.append(with_name(v,pth() if rnd.random()<.9 else b'a'))
        e=El(D,uniq(ps),n)
        if rnd.random()<.01: e=with_name(val(),n)
        els.append(e)
    return El(D,uniq(els))
def exp():
    r=rnd.random()
    if r<.6: return El(T,b'$'+pth())
    if r<.62: return El(T,b'$')
    return val(2)
def plainname(): return rnd.choice([b'a',b'b',b'c',b'p',b'q',b'0']) if rnd.random()<.98 else rnd.choice([b'a.b',b'$a',b'',b'by'])
def stg():
    r=rnd.random()
    if r<.01: return mkdoc()
    n=rnd.choice([b'$project',b'$unwind',b'$group',b'$group',b'$sort',b'$sort',b'$skip',b'$limit',b'$lookup',b'$match'])
    if rnd.random()<.02: v=val()
    elif n==b'$match': v=filt()
    elif n==b'$project':
        v=El(D,uniq([with_name(El(B,1) if rnd.random()<.4 else exp(),plainname()) for _ in range(rnd.choice([1,2,3]) if rnd.random()<.98 else 0)]))
    elif n==b'$unwind': v=El(T,b'$'+pth()) if rnd.random()<.98 else El(T,b'a')
    elif n==b'$group':
        fs=[with_name(exp() if rnd.random()<.9 else scalar(),b'by')]
        for _ in range(rnd.randrange(4)):
            a=rnd.choice([b'$count',b'$sum',b'$min',b'$max',b'$first',b'$last',b'$push',b'$addToSet'])
            av=El(N,None) if a==b'$count' and rnd.random()<.97 else exp()
            if a==b'$sum' and rnd.random()<.05: av=El(L,rnd.choice([2**63-1,-2**63]))
            fs.append(with_name(El(D,[with_name(av,a)] if rnd.random()<.98 else []),plainname()))
        v=El(D,uniq(fs))
        if rnd.random()<.02: v=El(D,v.val[1:])
    elif n==b'$sort':
        v=El(D,uniq([with_name(El(rnd.choice([I,L]),rnd.choice([1,-1]) if rnd.random()<.98 else 0),pth()) for _ in range(rnd.choice([1,1,2,3,4]) if rnd.random()<.98 else rnd.choice([0,7]))]))
    elif n in (b'$skip',b'$limit'): v=El(rnd.choice([I,L]),rnd.choice([0,1,2,3,10,2**31-1]) if rnd.random()<.97 else -1)
    else:
        v=El(D,[El(T,pth(),b'here'),El(T,pth(),b'there'),El(T,plainname(),b'as')])
        if rnd.random()<.03: v.val.pop(rnd.randrange(3))
        if rnd.random()<.02 and len(v.val)==3: v.val[rnd.randrange(3)].kind=N
        for x in v.val:
            if x.kind==N: x.val=None
    e=with_name(v,n)
    return El(D,[e] if rnd.random()<.99 else [e,El(I,1,b'z')])
def sh(): return El(rnd.choice([I,I,L]),rnd.randrange(2) if rnd.random()<.99 else 2,b'shelf')
def req(w):
    op=rnd.choices(list(w),list(w.values()))[0]
    s=sh()
    if op=='insert':
        d=mkdoc(0,rnd.randrange(1,5)); r=[with_name(d,b'insert'),s]
    elif op in ('find','count','explain'): r=[with_name(filt(),op.encode()),s]
    elif op=='delete': r=[with_name(filt(),b'delete'),s]
    elif op=='update': r=[with_name(filt(),b'update'),s,with_name(change(),b'change')]
    elif op=='index':
        n=rnd.choice([1,2]) if rnd.random()<.98 else rnd.choice([0,3])
        r=[El(R,[El(T,pth()) for _ in range(n)],b'index'),s,El(R,[El(B,rnd.randrange(2)) for _ in range(n if rnd.random()<.98 else n+1)],b'down')]
    elif op in ('drop','shape'): r=[El(rnd.choice([I,L]),rnd.randrange(5)-(rnd.random()<.05),op.encode()),s]
    else: r=[El(R,[stg() for _ in range(rnd.choice([0,1,1,1,2,2,3]))],b'pipeline'),s]
    if rnd.random()<.01:
        k=rnd.randrange(3)
        if k==0: r.pop()
        elif k==1: r.append(El(I,0,b'q'))
        else: r.reverse()
    b=enc_val(El(D,r))
    if rnd.random()<.03 and op not in('insert',):
        bb=bytearray(b)
        for _ in range(rnd.choice([1,1,2])):
            i=rnd.randrange(len(bb))
            m=rnd.randrange(4)
            if m==0: bb[i]=rnd.randrange(256)
            elif m==1: bb[i]=rnd.choice([0,1,2,3,4,8,10,16,18,255,128])
            elif m==2 and len(bb)>1: del bb[i]
            else: bb.insert(i,rnd.choice([0,1,2,3,16,200]))
        b=bytes(bb)
    return b

def E(v,name): return with_name(v,name.encode() if isinstance(name,str) else name)
def request(*els): return enc_val(El(D,list(els)))
def S(x): return El(I,x,b'shelf')
def ints(lo,hi,m): return El(R,[El(I,rnd.randrange(m)) for _ in range(rnd.randrange(lo,hi))])
def big(n): return El(T,bytes([97+rnd.randrange(3)])*n)
def gen_room(k):
    r=rnd.random()
    s=S(rnd.random()<.15)
    if r<.5:
        q=rnd.random()
        d=[]
        if q<.6: d.append(E(big(rnd.choice([10,55,58,59,60,61,100,300,900,1500])),'a'))
        if q>.4: d.append(E(ints(0,rnd.choice([3,10,60,100]),1000),rnd.choice(['b','c'])))
        d.append(E(El(I,rnd.randrange(5)),'k'))
        return request(E(El(D,d),'insert'),s)
    if r<.6: return request(E(El(D,[E(El(D,[E(El(I,rnd.randrange(6)),'$lt')]),'k')]) if rnd.random()<.7 else El(D,[]),rnd.choice(['find','count','delete','explain'] if rnd.random()<.15 else ['find','count','explain'])),s)
    if r<.75:
        op=rnd.choice(['$set','$push','$addToSet','$push'])
        pa=rnd.choice(['a','b','c','d.e.f.g','b.0','b.5'])
        v=rnd.choice([big(rnd.choice([59,60,100,1000])),El(I,5),ints(0,5,10),ints(30,60,1000)])
        f=El(D,[E(El(I,rnd.randrange(5)),'k')])
        return request(E(f,'update'),s,E(El(D,[E(El(D,[E(v,pa)]),op)]),'change'))
    if r<.85:
        n=rnd.choice([1,2])
        ps=rnd.sample(['a','b','c','k','b.0'],n)
        return request(E(El(R,[El(T,p.encode()) for p in ps]),'index'),s,E(El(R,[El(B,rnd.randrange(2)) for _ in range(n)]),'down'))
    if r<.88: return request(E(El(I,rnd.randrange(4)),'drop'),s)
    if r<.92: return request(E(El(I,rnd.randrange(4)),'shape'),s)
    st=[]
    for _ in range(rnd.choice([1,2])):
        q=rnd.randrange(7)
        if q==0: st.append(El(D,[E(El(D,[E(El(T,b'$k') if rnd.random()<.5 else El(N,None),'by'),E(El(D,[E(El(T,b'$'+rnd.choice([b'a',b'b',b'k',b'c'])),rnd.choice(['$push','$addToSet','$first','$max','$sum']))]),'x')]),'$group')]))
        elif q==1: st.append(El(D,[E(El(T,b'$'+rnd.choice([b'a',b'b',b'c'])),'$unwind')]))
        elif q==2: st.append(El(D,[E(El(D,[E(El(T,rnd.choice([b'k',b'a',b'b'])),'here'),E(El(T,rnd.choice([b'k',b'a',b'b'])),'there'),E(El(T,b'z'),'as')]),'$lookup')]))
        elif q==3: st.append(El(D,[E(El(I,rnd.randrange(10)),'$limit')]))
        elif q==4: st.append(El(D,[E(El(D,[E(El(T,b'$a'),'a'),E(El(T,b'$a'),'b'),E(El(T,b'$b'),'c')]),'$project')]))
        elif q==5: st.append(El(D,[E(El(D,[E(El(I,rnd.choice([1,-1])),'k'),E(El(I,rnd.choice([1,-1])),'a')]),'$sort')]))
        else: st.append(El(D,[E(El(I,rnd.randrange(10)),'$skip')]))
    return request(E(El(R,st),'pipeline'),s)
def gen_tree(k):
    r=rnd.random(); s=S(0)
    if k<3:
        n=rnd.choice([1,2]); ps=rnd.sample(['a','b','a.c','k'],n)
        return request(E(El(R,[El(T,p.encode()) for p in ps]),'index'),s,E(El(R,[El(B,rnd.randrange(2)) for _ in range(n)]),'down'))
    if r<.4:
        d=[]
        if rnd.random()<.8: d.append(E(ints(0,rnd.choice([2,5,12]),60) if rnd.random()<.6 else El(rnd.choice([I,L]),rnd.randrange(60)),'a'))
        if rnd.random()<.8: d.append(E(ints(0,rnd.choice([2,4]),20) if rnd.random()<.5 else El(I,rnd.randrange(20)),'b'))
        d.append(E(El(I,rnd.randrange(40)),'k'))
        return request(E(El(D,d),'insert'),s)
    f=El(D,[E(rnd.choice([El(I,rnd.randrange(40)),El(D,[E(El(I,rnd.randrange(40)),rnd.choice(['$lt','$gt']))])]) if rnd.random()<.5 else El(I,rnd.randrange(40)),rnd.choice(['k','k','a','b']))])
    if r<.7:
        op=rnd.choice(OPS)
        v=El(I,rnd.randrange(60)) if op!=b'$set' or rnd.random()<.5 else ints(0,8,60)
        return request(E(f,'update'),s,E(El(D,[E(El(D,[E(v,rnd.choice(['a','b','k','a.0','b.1']))]),op)]),'change'))
    if r<.78: return request(E(f,'delete'),s)
    if r<.82: return request(E(f,'explain'),s)
    return request(E(El(I,rnd.randrange(3)),'shape'),s)
def deepv(n):
    v=scalar()
    for _ in range(n):
        v=El(R,[v]) if rnd.random()<.5 else El(D,[E(v,rnd.choice(['a','b']))])
        if rnd.random()<.3: v.val.append(E(scalar(),'z'))
    return v
def gen_deep(k):
    r=rnd.random(); s=S(rnd.random()<.3)
    if r<.35: return request(E(El(D,[E(deepv(rnd.randrange(6,16)),rnd.choice(['a','b']))]),'insert'),s)
    if r<.7: return request(E(El(D,[]),'update'),s,E(El(D,[E(El(D,[E(deepv(rnd.choice([0,3,10,12,13,14])),'.'.join(rnd.choice(['a','b','0']) for _ in range(rnd.randrange(1,9))))]),rnd.choice(['$set','$push','$addToSet','$pull','$unset']))]),'change'))
    if r<.8:
        st=rnd.choice([El(D,[E(El(D,[E(El(N,None),'by'),E(El(D,[E(El(T,b'$a'),rnd.choice(['$push','$first','$addToSet']))]),'x')]),'$group')]),
          El(D,[E(El(D,[E(El(T,b'a'),'here'),E(El(T,b'a'),'there'),E(El(T,b'q'),'as')]),'$lookup')]),
          El(D,[E(El(D,[E(El(D,[E(El(T,b'$a'),'p')]),'a'),E(El(T,b'$'+b'.'.join(rnd.choice([b'a',b'b']) for _ in range(rnd.randrange(1,9)))),'b')]),'$project')])])
        return request(E(El(R,[st]),'pipeline'),s)
    if r<.9: return request(E(El(D,[E(val(),'.'.join(rnd.choice(['a','b','0']) for _ in range(rnd.randrange(1,9))))]),'count'),s)
    if r<.92: return request(E(El(D,[]),'delete'),s)
    f=deepv(rnd.randrange(8,15))
    return request(E(El(D,[E(f,'a')]),'find'),s)
def gen_parse(k):
    b=bytearray(req(dict(insert=5,find=5,update=5,pipeline=5,index=1,explain=1)))
    if rnd.random()<.3:
        b=bytearray(request(E(deepv(rnd.randrange(10,20)),'insert'),S(0)))
    for _ in range(rnd.choice([1,1,1,2,3])):
        i=rnd.randrange(len(b)); m=rnd.randrange(6)
        if m==0: b[i]=rnd.randrange(256)
        elif m==1: b[i]=rnd.choice([0,1,2,3,4,8,10,16,18,255,128,194,226])
        elif m==2 and len(b)>1: del b[i]
        elif m==3: b.insert(i,rnd.choice([0,1,2,3,16,200]))
        elif m==4: b[i:i+1]=rnd.choice([b'\xc3\xa9',b'\xe2\x82\xac',b'\xed\xa0\x80',b'\xf0\x9f\x98\x80',b'\xc0\x80',b'\xf4\x90\x80\x80',b'\xe0\x80\x80'])
        else: b=b[:i] if rnd.random()<.3 and i>0 else b
        if not b: b=bytearray(b'\5')
    if rnd.random()<.5 and len(b)>=4: b[0:4]=len(b).to_bytes(4,'little')
    return bytes(b)
def gen_explain(k):
    r=rnd.random(); s=S(0)
    P=['a','b','a.b']
    if k<4:
        n=rnd.choice([1,2]); ps=rnd.sample(P,n)
        return request(E(El(R,[El(T,p.encode()) for p in ps]),'index'),s,E(El(R,[El(B,rnd.randrange(2)) for _ in range(n)]),'down'))
    def sv(): return rnd.choice([El(I,rnd.randrange(4)),El(L,rnd.randrange(4)),El(T,rnd.choice([b'',b'a',b'b'])),El(B,rnd.randrange(2)),El(N,None),El(I,rnd.randrange(4)),El(D,[]),El(D,[E(El(I,rnd.randrange(3)),'b')])]) if rnd.random()<.97 else El(R,[])
    if r<.2:
        d=[]
        for n in 'ab':
            q=rnd.random()
            if q<.5: d.append(E(sv(),n))
            elif q<.6: d.append(E(El(R,[sv() for _ in range(rnd.randrange(2))]),n))
            elif q<.62: d.append(E(El(R,[sv() for _ in range(rnd.randrange(4))]),n))
        return request(E(El(D,d),'insert'),s)
    if r<.23: return request(E(El(I,rnd.randrange(4)),'drop'),s)
    if r<.27:
        n=rnd.choice([1,2]); ps=rnd.sample(P,n)
        return request(E(El(R,[El(T,p.encode()) for p in ps]),'index'),s,E(El(R,[El(B,rnd.randrange(2)) for _ in range(n)]),'down'))
    if r<.28: return request(E(El(D,[E(sv(),'a')]),'delete'),s)
    def cd(dp=0):
        out=[]
        for _ in range(rnd.choice([1,1,2,2,3])):
            n=rnd.choice(['$eq','$in','$in','$lt','$lte','$gt','$gte','$gt','$lt','$elem','$ne','$exists','$not'])
            if n=='$in': v=El(R,[sv() for _ in range(rnd.randrange(5))])
            elif n=='$elem':
                v=cd(1) if dp==0 and rnd.random()<.9 else El(D,[E(sv(),'b')])
            elif n=='$exists': v=El(B,1)
            elif n=='$not': v=El(D,[E(sv(),'$eq')])
            else: v=sv()
            out.append(E(v,n))
        return El(D,uniq(out))
    def ff(dp=0):
        out=[]
        for _ in range(rnd.choice([1,1,2,3])):
            q=rnd.random()
            if q<.25 and dp<3: out.append(E(El(R,[ff(dp+1) for _ in range(rnd.choice([1,2]))]),rnd.choice(['$and','$and','$and','$or'])))
            elif q<.8: out.append(E(cd(),rnd.choice(P)))
            else: out.append(E(sv(),rnd.choice(P)))
        return El(D,uniq(out))
    return request(E(ff(),rnd.choice(['explain','explain','explain','count'])),s)
def gen_count(k):
    def ff(dp):
        out=[]
        for i in range(rnd.randrange(1,30)):
            q=rnd.random(); nme=('p%d'%i)
            if q<.3: out.append(E(El(I,1),nme))
            elif q<.8: out.append(E(El(D,uniq([E(El(I,1),rnd.choice(['$eq','$ne','$lt','$gt'])) for _ in range(rnd.randrange(1,5))])),nme))
            elif dp<3: out.append(E(El(D,[E(ff(dp+1),'$elem')]),nme))
        if rnd.random()<.3 and dp<3: out.append(E(El(R,[ff(dp+1) for _ in range(2)]),'$or'))
        rnd.shuffle(out)
        return El(D,uniq(out))
    if k<5: return request(E(El(D,[E(El(I,1),'p%d'%i) for i in range(30)]),'insert'),S(0))
    return request(E(ff(0),rnd.choice(['find','explain'])),S(0))
MIX=dict(insert=30,find=12,count=3,update=15,delete=2,index=3,drop=1,pipeline=25,explain=12,shape=5)
CHURN=dict(insert=30,find=3,count=1,update=12,delete=5,index=3,drop=1,pipeline=3,explain=15,shape=25)

def gen_mix(k): return req(MIX)
def gen_churn(k): return req(CHURN)
G=dict(mix=gen_mix,churn=gen_churn,room=gen_room,tree=gen_tree,deep=gen_deep,parse=gen_parse,explain=gen_explain,count=gen_count)
